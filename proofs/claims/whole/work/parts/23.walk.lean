def w_C_keep (z mi mc ms : Nat) (post : Sg → Prop) (g : Sg) (this : Nat) (p0 : Option Nat) : Prop := (hasR g this 22 ∧ ∀ o11 : Option Nat, o11 = fR g 22 this → ∃ a12, o11 = some a12 ∧ (isK g a12 [0] ∧ ∃ c13 c14 : Nat, 0 + c13 ≤ mc ∧ 0 + c14 ≤ ms ∧ w_AL_size z mi c13 c14 (fun (x16 : Int32) (g15 : Sg) => ∃ a17, p0 = some a17 ∧ (hasI g15 a17 10 ∧ ∀ g19 : Sg, g19 = wI g15 10 a17 x16 → (hasI g19 this 28 ∧ ∀ x20 : Int32, x20 = fI g19 28 this → (hasI g19 a17 11 ∧ ∀ g21 : Sg, g21 = wI g19 11 a17 x20 → (hasR g21 a17 7 ∧ ∀ o22 : Option Nat, o22 = fR g21 7 a17 → ∃ a23, o22 = some a23 ∧ (hasR g21 a23 6 ∧ ∀ o24 : Option Nat, o24 = fR g21 6 a23 → ∃ a25, o24 = some a25 ∧ (isK g21 a25 [0] ∧ ∃ c26 c27 : Nat, (0 + c13) + c26 ≤ mc ∧ (0 + c14) + c27 ≤ ms ∧ w_AL_add1 z mi c26 c27 (fun (x29 : Int32) (g28 : Sg) => (hasR g28 this 22 ∧ ∀ o30 : Option Nat, o30 = fR g28 22 this → ∃ a31, o30 = some a31 ∧ (isK g28 a31 [0] ∧ ∃ c32 c33 : Nat, ((0 + c13) + c26) + c32 ≤ mc ∧ ((0 + c14) + c27) + c33 ≤ ms ∧ w_AL_add1 z mi c32 c33 (fun (x35 : Int32) (g34 : Sg) => post g34) g28 a31 (some a17)))) g21 a25 (some a17)))))))) g a12))
set_option maxHeartbeats 4000000 in
set_option maxRecDepth 100000 in
theorem s_C_keep {l : Launch} {D : va_G} {cA : Nat → ClassId} {sz z mi mc ms : Nat} {g : Sg} {post : Sg → Prop} {this : Nat} {p0 : Option Nat} (h : w_C_keep z mi mc ms post g this p0) : Met l y_C_keep (Cond.code y_C_keep b_C_keep 2 none :: TBL) ({ frames := 7, cells := mc, slots := ms, locals := 191 } : Room) (Pg D cA sz z mi [.ref this, va_rf p0] g) (Qg D cA sz (pV post)) mc ms (oA sz) := by
  refine m_code (lv := [(0, .ref this), (1, va_rf p0)]) (by decide +kernel) (by simp [lg_sl, rf_cat, cat_i, cat_r, cat_l]) (by simp [lv_args, rf_cat, cat_i, cat_r, cat_l]) ?_
  intro p e s m below meth c ls S hr hlk hnm hZ hG hS hl
  obtain ⟨hx, hb, hml, hown, hts⟩ := id S
  have hk : 0 ≤ mc ∧ 0 ≤ ms := ⟨Nat.zero_le _, Nat.zero_le _⟩
  refine q_aload_n hx hb d_C_keep_0 rfl (lv_at hl 1 rfl) ?_
  refine lv_aload_n hx hb d_C_keep_1 rfl (lv_at hl 0 rfl) ?_
  refine r_getR (f := 22) S hZ hG rfl h.1 (hts _ tw_153) (fun _ h9 => h9) d_C_keep_2 (fun o11 e9 => ?_)
  replace h := h.2 o11 e9
  obtain ⟨a12, e9, h⟩ := h
  subst e9
  obtain ⟨h9, h⟩ := h
  obtain ⟨c13, c14, k1, k2, h⟩ := h
  obtain ⟨n9, h9⟩ := isK1 h9
  refine q_callI (run_V (As := []) (rest := [va_rf p0]) S hZ hG hS (s_AL_size h) tw_99 tw_247 tw_97 tw_98 tw_4 nk_AL_size h9 (by decide) rfl ⟨Nat.le_of_ble_eq_true rfl, Nat.le_of_ble_eq_true rfl⟩ rfl hl.1 rfl (by simp [rf_cat, cat_i, cat_r, cat_l]) d_C_keep_5 ⟨k1, k2⟩) hS (fun x16 g15 H locs h38 hG hS => ?_)
  have hk := And.intro k1 k2
  replace h := h38
  obtain ⟨a17, e9, h⟩ := h
  subst e9
  have hl18 : lv_has ls 2 [(0, .ref this), (1, .ref a17)] := hl
  refine r_putI (f := 10) S hZ hG hS rfl h.1 (hts _ tw_123) (fun _ h9 => h9) (Or.inl rfl) d_C_keep_8 (fun g19 H locs e9 hG hS => ?_)
  replace h := h.2 g19 e9
  refine lv_aload_n hx hb d_C_keep_11 rfl (lv_at hl18 1 rfl) ?_
  refine lv_aload_n hx hb d_C_keep_12 rfl (lv_at hl18 0 rfl) ?_
  refine r_getI (f := 28) S hZ hG rfl h.1 (hts _ tw_159) (fun _ h9 => h9) d_C_keep_13 (fun x20 e9 => ?_)
  replace h := h.2 x20 e9
  refine r_putI (f := 11) S hZ hG hS rfl h.1 (hts _ tw_124) (fun _ h9 => h9) (Or.inl rfl) d_C_keep_16 (fun g21 H locs e9 hG hS => ?_)
  replace h := h.2 g21 e9
  refine lv_aload_n hx hb d_C_keep_19 rfl (lv_at hl18 1 rfl) ?_
  refine r_getR (f := 7) S hZ hG rfl h.1 (hts _ tw_116) (fun _ h9 => h9) d_C_keep_20 (fun o22 e9 => ?_)
  replace h := h.2 o22 e9
  obtain ⟨a23, e9, h⟩ := h
  subst e9
  refine r_getR (f := 6) S hZ hG rfl h.1 (hts _ tw_80) (fun _ h9 => h9) d_C_keep_23 (fun o24 e9 => ?_)
  replace h := h.2 o24 e9
  refine lv_aload_n hx hb d_C_keep_26 rfl (lv_at hl18 1 rfl) ?_
  obtain ⟨a25, e9, h⟩ := h
  subst e9
  obtain ⟨h9, h⟩ := h
  obtain ⟨c26, c27, k1, k2, h⟩ := h
  obtain ⟨n9, h9⟩ := isK1 h9
  refine q_callI (run_V (As := [va_rf (some a17)]) (rest := []) S hZ hG hS (s_AL_add1 h) tw_532 tw_529 tw_530 tw_531 tw_4 nk_AL_add1 h9 (by decide) rfl ⟨Nat.le_of_ble_eq_true rfl, Nat.le_of_ble_eq_true rfl⟩ rfl hl18.1 rfl (by decide) d_C_keep_27 ⟨k1, k2⟩) hS (fun x29 g28 H locs h37 hG hS => ?_)
  have hk := And.intro k1 k2
  replace h := h37
  refine lv_pop hx hb d_C_keep_30 rfl ?_
  refine lv_aload_n hx hb d_C_keep_31 rfl (lv_at hl18 0 rfl) ?_
  refine r_getR (f := 22) S hZ hG rfl h.1 (hts _ tw_153) (fun _ h9 => h9) d_C_keep_32 (fun o30 e9 => ?_)
  replace h := h.2 o30 e9
  refine lv_aload_n hx hb d_C_keep_35 rfl (lv_at hl18 1 rfl) ?_
  obtain ⟨a31, e9, h⟩ := h
  subst e9
  obtain ⟨h9, h⟩ := h
  obtain ⟨c32, c33, k1, k2, h⟩ := h
  obtain ⟨n9, h9⟩ := isK1 h9
  refine q_callI (run_V (As := [va_rf (some a17)]) (rest := []) S hZ hG hS (s_AL_add1 h) tw_532 tw_529 tw_530 tw_531 tw_4 nk_AL_add1 h9 (by decide) rfl ⟨Nat.le_of_ble_eq_true rfl, Nat.le_of_ble_eq_true rfl⟩ rfl hl18.1 rfl (by decide) d_C_keep_36 ⟨k1, k2⟩) hS (fun x35 g34 H locs h36 hG hS => ?_)
  have hk := And.intro k1 k2
  replace h := h36
  refine lv_pop hx hb d_C_keep_39 rfl ?_
  exact r_vret S hr hlk hG hS h hk.1 hk.2 d_C_keep_40
def w_C_weaveIn_22 (z mi mc ms : Nat) (post : Sg → Prop) : Nat → Nat → Nat → Sg → Nat → Option Nat → Int32 → Int32 → Option Nat → Option Nat → Int32 → Prop
  | 0 => fun _ _ _ _ _ _ _ _ _ _ => False
  | n + 1 => fun kc ks g this v1 v3 v4 v5 v6 v7 => (v4 ≤ v7 → post g) ∧ (¬ v4 ≤ v7 → (v6 = none → post g) ∧ (∀ a24, v6 = some a24 → (kc + 1 ≤ mc ∧ ks + 13 ≤ ms ∧ ∀ a27 : Nat, hT g a27 = none → ∀ g28 : Sg, g28 = nO g a27 3 13 → (∃ c29 c30 : Nat, (kc + 1) + c29 ≤ mc ∧ (ks + 13) + c30 ≤ ms ∧ w_N_init z mi c29 c30 (fun (g31 : Sg) => (isK g31 this [4] ∧ ∃ c33 c34 : Nat, ((kc + 1) + c29) + c33 ≤ mc ∧ ((ks + 13) + c30) + c34 ≤ ms ∧ w_C_hang z mi c33 c34 (fun (g35 : Sg) => (hasI g35 this 28 ∧ ∀ x36 : Int32, x36 = fI g35 28 this → (hasI g35 this 28 ∧ ∀ g37 : Sg, g37 = wI g35 28 this (x36 + (1 : Int32)) → (isK g37 this [4] ∧ ∃ c38 c39 : Nat, (((kc + 1) + c29) + c33) + c38 ≤ mc ∧ (((ks + 13) + c30) + c34) + c39 ≤ ms ∧ w_C_keep z mi c38 c39 (fun (g40 : Sg) => w_C_weaveIn_22 z mi mc ms post n ((((kc + 1) + c29) + c33) + c38) ((((ks + 13) + c30) + c34) + c39) g40 this v1 v3 v4 v5 (some a27) (v7 + (1 : Int32))) g37 this (some a27))))) g31 this (some a27) (some a24))) g28 a27 v1 v5 (v3 + v7)))))
set_option maxHeartbeats 4000000 in
set_option maxRecDepth 100000 in
theorem s_C_weaveIn_22 {p : Program} {l : Launch} {e : Env} {s : State} {m : MethodId} {args : Array Value} {below : List Frame} {meth : Method} {c : Code} {D : va_G} {cA : Nat → ClassId} {sz z mi mc ms : Nat} {post : Sg → Prop} (S : CallFix p m c b_C_weaveIn 9 s args TBL "WeaveCore") (hZ : Ws D cA sz z mi s) (hr : meth.sig.returnType = none) (hlk : meth.locks = false) :
    ∀ n : Nat, ∀ (kc ks : Nat) (g : Sg) (this : Nat) (v1 : Option Nat) (v3 : Int32) (v4 : Int32) (v5 : Option Nat) (v6 : Option Nat) (v7 : Int32) (H : Heap) (locs : List Loc) (ls : Array Slot), kc ≤ mc ∧ ks ≤ ms → w_C_weaveIn_22 z mi mc ms post n kc ks g this v1 v3 v4 v5 v6 v7 → WP D cA sz g H → va_S (oA sz) s.heap H locs → lv_has ls 9 [(0, .ref this), (1, va_rf v1), (3, .int v3), (4, .int v4), (5, va_rf v5), (6, va_rf v6), (7, .int v7)] → W p l e ({ frames := 8, cells := mc, slots := ms, locals := 212 } : Room) s m args below meth c H locs kc ks (MQ below (Qg D cA sz (pV post)) args s mc ms (oA sz)) (F0 m 22 ls []) := by
  obtain ⟨hx, hb, hml, hown, hts⟩ := id S
  intro n
  induction n with
  | zero =>
    intro kc ks g this v1 v3 v4 v5 v6 v7 H locs ls hk h hG hS hl
    exact h.elim
  | succ n ih =>
    intro kc ks g this v1 v3 v4 v5 v6 v7 H locs ls hk h hG hS hl
    refine lv_iload hx hb d_C_weaveIn_22 (lv_at hl 6 rfl) ?_
    refine lv_iload hx hb d_C_weaveIn_24 (lv_at hl 3 rfl) ?_
    refine lv_icmp_ge (tgt := 84) hx hb d_C_weaveIn_26 (by decide) (fun c9 => ?_) (fun c9 => ?_)
    · replace h := h.1 c9
      exact r_vret S hr hlk hG hS h hk.1 hk.2 d_C_weaveIn_84
    · replace h := h.2 c9
      refine q_aload hx hb d_C_weaveIn_29 (lv_at hl 5 rfl) ?_
      refine q_ifnull (tgt := 84) hx hb d_C_weaveIn_31 (by decide) (fun e9 => ?_) (fun a24 e9 => ?_)
      · replace h := h.1 e9
        subst e9
        have hl25 : lv_has ls 9 [(0, .ref this), (1, va_rf v1), (3, .int v3), (4, .int v4), (5, va_rf v5), (6, .null), (7, .int v7)] := hl
        exact r_vret S hr hlk hG hS h hk.1 hk.2 d_C_weaveIn_84
      · replace h := h.2 a24 e9
        subst e9
        have hl26 : lv_has ls 9 [(0, .ref this), (1, va_rf v1), (3, .int v3), (4, .int v4), (5, va_rf v5), (6, .ref a24), (7, .int v7)] := hl
        refine r_new (k := 3) S hZ hG hS (by decide) rfl (hts _ tw_63) (hts _ tw_64) (hts _ tw_6) h.1 h.2.1 d_C_weaveIn_34 (fun a27 g28 H f9 e9 hG hS => ?_)
        have hk := And.intro h.1 h.2.1
        replace h := h.2.2 a27 f9 g28 e9
        refine lv_dup hx hb d_C_weaveIn_37 rfl ?_
        refine q_aload_n hx hb d_C_weaveIn_38 rfl (lv_at hl26 1 rfl) ?_
        refine q_aload hx hb d_C_weaveIn_39 (lv_at hl26 4 rfl) ?_
        refine lv_iload_n hx hb d_C_weaveIn_41 rfl (lv_at hl26 2 rfl) ?_
        refine lv_iload hx hb d_C_weaveIn_42 (lv_at hl26 6 rfl) ?_
        refine lv_iadd hx hb d_C_weaveIn_44 ?_
        obtain ⟨c29, c30, k1, k2, h⟩ := h
        refine q_callV (run_I (As := [va_rf v1, va_rf v5, .int (v3 + v7)]) (rest := [.ref a27]) S hZ hG hS (s_N_init h) tw_91 tw_89 tw_90 tw_6 rfl nk_N_init ⟨Nat.le_of_ble_eq_true rfl, Nat.le_of_ble_eq_true rfl⟩ rfl hl26.1 rfl (Nat.le_of_ble_eq_true rfl) d_C_weaveIn_45 ⟨k1, k2⟩) hS (fun g31 H locs h45 hG hS => ?_)
        have hk := And.intro k1 k2
        replace h := h45
        refine q_astore (o := (some a27)) (lv' := [(8, .ref a27), (0, .ref this), (1, va_rf v1), (3, .int v3), (4, .int v4), (5, va_rf v5), (6, .ref a24), (7, .int v7)]) hx hb d_C_weaveIn_48 hl26 (by decide) (.n (.k 0 rfl (by decide) (by decide) (.k 1 rfl (by decide) (by decide) (.k 2 rfl (by decide) (by decide) (.k 3 rfl (by decide) (by decide) (.k 4 rfl (by decide) (by decide) (.k 5 rfl (by decide) (by decide) (.c 6 rfl (by decide) rfl .e)))))))) (fun ls32 hl32 => ?_)
        refine lv_aload_n hx hb d_C_weaveIn_50 rfl (lv_at hl32 1 rfl) ?_
        refine lv_aload hx hb d_C_weaveIn_51 (lv_at hl32 0 rfl) ?_
        refine lv_aload hx hb d_C_weaveIn_53 (lv_at hl32 6 rfl) ?_
        obtain ⟨h9, h⟩ := h
        obtain ⟨c33, c34, k1, k2, h⟩ := h
        obtain ⟨n9, h9⟩ := isK1 h9
        refine q_callV (run_V (As := [va_rf (some a27), va_rf (some a24)]) (rest := []) S hZ hG hS (s_C_hang h) tw_473 tw_470 tw_472 tp_15 tw_1 nk_C_hang h9 (by decide) rfl ⟨Nat.le_of_ble_eq_true rfl, Nat.le_of_ble_eq_true rfl⟩ rfl hl32.1 rfl (by decide) d_C_weaveIn_55 ⟨k1, k2⟩) hS (fun g35 H locs h44 hG hS => ?_)
        have hk := And.intro k1 k2
        replace h := h44
        refine lv_aload_n hx hb d_C_weaveIn_58 rfl (lv_at hl32 1 rfl) ?_
        refine lv_dup hx hb d_C_weaveIn_59 rfl ?_
        refine r_getI (f := 28) S hZ hG rfl h.1 (hts _ tw_159) (fun _ h9 => h9) d_C_weaveIn_60 (fun x36 e9 => ?_)
        replace h := h.2 x36 e9
        refine lv_iconst (v := (1 : Int32)) hx hb d_C_weaveIn_63 (by decide) ?_
        refine lv_iadd hx hb d_C_weaveIn_64 ?_
        refine r_putI (f := 28) S hZ hG hS rfl h.1 (hts _ tw_159) (fun _ h9 => h9) (Or.inl rfl) d_C_weaveIn_65 (fun g37 H locs e9 hG hS => ?_)
        replace h := h.2 g37 e9
        refine lv_aload_n hx hb d_C_weaveIn_68 rfl (lv_at hl32 1 rfl) ?_
        refine lv_aload hx hb d_C_weaveIn_69 (lv_at hl32 0 rfl) ?_
        obtain ⟨h9, h⟩ := h
        obtain ⟨c38, c39, k1, k2, h⟩ := h
        obtain ⟨n9, h9⟩ := isK1 h9
        refine q_callV (run_V (As := [va_rf (some a27)]) (rest := []) S hZ hG hS (s_C_keep h) tw_528 tw_525 tw_527 tp_24 tw_1 nk_C_keep h9 (by decide) rfl ⟨Nat.le_of_ble_eq_true rfl, Nat.le_of_ble_eq_true rfl⟩ rfl hl32.1 rfl (by decide) d_C_weaveIn_71 ⟨k1, k2⟩) hS (fun g40 H locs h43 hG hS => ?_)
        have hk := And.intro k1 k2
        replace h := h43
        refine lv_aload hx hb d_C_weaveIn_74 (lv_at hl32 0 rfl) ?_
        refine q_astore (o := (some a27)) (lv' := [(6, .ref a27), (8, .ref a27), (0, .ref this), (1, va_rf v1), (3, .int v3), (4, .int v4), (5, va_rf v5), (7, .int v7)]) hx hb d_C_weaveIn_76 hl32 (by decide) (.n (.k 0 rfl (by decide) (by decide) (.k 1 rfl (by decide) (by decide) (.k 2 rfl (by decide) (by decide) (.k 3 rfl (by decide) (by decide) (.k 4 rfl (by decide) (by decide) (.c 5 rfl (by decide) (rf_cat _) (.k 7 rfl (by decide) (by decide) .e)))))))) (fun ls41 hl41 => ?_)
        refine q_iinc (k := 7) (v := v7 + (1 : Int32)) (lv' := [(7, .int (v7 + (1 : Int32))), (6, .ref a27), (8, .ref a27), (0, .ref this), (1, va_rf v1), (3, .int v3), (4, .int v4), (5, va_rf v5)]) hx hb d_C_weaveIn_78 hl41 rfl rfl (by decide) (.n (.c 0 rfl (by decide) rfl (.k 1 rfl (by decide) (by decide) (.k 2 rfl (by decide) (by decide) (.k 3 rfl (by decide) (by decide) (.k 4 rfl (by decide) (by decide) (.k 5 rfl (by decide) (by decide) (.k 6 rfl (by decide) (by decide) .e)))))))) (fun ls42 hl42 => ?_)
        refine lv_goto (tgt := 22) hx hb d_C_weaveIn_81 (by decide) ?_
        exact ih _ _ _ _ _ _ _ _ _ _ _ _ _ hk h hG hS (lv_sub hl42 [3, 4, 5, 6, 7, 1, 0] rfl)
def w_C_weaveIn (z mi mc ms : Nat) (post : Sg → Prop) (g : Sg) (this : Nat) (p0 : Option Nat) (p1 : Int32) (p2 : Int32) (p3 : Int32) : Prop := (hasR g this 25 ∧ ∀ o11 : Option Nat, o11 = fR g 25 this → ∃ a12, o11 = some a12 ∧ (∃ n13 : Nat, hT g a12 = some (100, n13) ∧ 0 + 1 ≤ mc ∧ 0 + n13 ≤ ms ∧ ∀ a14 : Nat, hT g a14 = none → ∀ g15 : Sg, g15 = cI (nO g a14 100 n13) a14 (aI g a12) → ((∃ n16 : Nat, hT g15 a14 = some (100, n16)) ∧ (isK g15 this [4] ∧ ∃ c18 c19 : Nat, (0 + 1) + c18 ≤ mc ∧ (0 + n13) + c19 ≤ ms ∧ w_C_seenNode z mi c18 c19 (fun (o21 : Option Nat) (g20 : Sg) => (∃ n46 : Nat, w_C_weaveIn_22 z mi mc ms post n46 ((0 + 1) + c18) ((0 + n13) + c19) g20 this p0 p2 p3 (some a14) o21 (0 : Int32))) g15 this p1))))
set_option maxHeartbeats 4000000 in
set_option maxRecDepth 100000 in
theorem s_C_weaveIn {l : Launch} {D : va_G} {cA : Nat → ClassId} {sz z mi mc ms : Nat} {g : Sg} {post : Sg → Prop} {this : Nat} {p0 : Option Nat} {p1 : Int32} {p2 : Int32} {p3 : Int32} (h : w_C_weaveIn z mi mc ms post g this p0 p1 p2 p3) : Met l y_C_weaveIn (Cond.code y_C_weaveIn b_C_weaveIn 9 none :: TBL) ({ frames := 8, cells := mc, slots := ms, locals := 212 } : Room) (Pg D cA sz z mi [.ref this, va_rf p0, .int p1, .int p2, .int p3] g) (Qg D cA sz (pV post)) mc ms (oA sz) := by
  refine m_code (lv := [(0, .ref this), (1, va_rf p0), (2, .int p1), (3, .int p2), (4, .int p3)]) (by decide +kernel) (by simp [lg_sl, rf_cat, cat_i, cat_r, cat_l]) (by simp [lv_args, rf_cat, cat_i, cat_r, cat_l]) ?_
  intro p e s m below meth c ls S hr hlk hnm hZ hG hS hl
  obtain ⟨hx, hb, hml, hown, hts⟩ := id S
  have hk : 0 ≤ mc ∧ 0 ≤ ms := ⟨Nat.zero_le _, Nat.zero_le _⟩
  refine lv_aload_n hx hb d_C_weaveIn_0 rfl (lv_at hl 0 rfl) ?_
  refine r_getR (f := 25) S hZ hG rfl h.1 (hts _ tw_156) (fun _ h9 => h9) d_C_weaveIn_1 (fun o11 e9 => ?_)
  replace h := h.2 o11 e9
  obtain ⟨a12, e9, h⟩ := h
  subst e9
  obtain ⟨n13, h9, h⟩ := h
  refine r_clone S hl.1 hZ (hZ.2.2.2.2.2.2.2.1 ("[I", "java/lang/Cloneable") (by decide)) hG hS tw_459 tw_460 tw_461 tw_462 tw_463 h9 (Nat.le_of_ble_eq_true rfl) (Nat.le_of_ble_eq_true rfl) h.1 h.2.1 d_C_weaveIn_4 (fun a14 g15 H f9 e9 hG hS => ?_)
  have hk := And.intro h.1 h.2.1
  replace h := h.2.2 a14 f9 g15 e9
  obtain ⟨⟨n16, h9⟩, h⟩ := h
  refine r_cast100 S hZ hG (hts _ tw_465) h9 d_C_weaveIn_7 ?_
  refine q_astore (o := (some a14)) (lv' := [(5, .ref a14), (0, .ref this), (1, va_rf p0), (2, .int p1), (3, .int p2), (4, .int p3)]) hx hb d_C_weaveIn_10 hl (by decide) (.n (.k 0 rfl (by decide) (by decide) (.k 1 rfl (by decide) (by decide) (.k 2 rfl (by decide) (by decide) (.k 3 rfl (by decide) (by decide) (.c 4 rfl (by decide) rfl .e)))))) (fun ls17 hl17 => ?_)
  refine lv_aload_n hx hb d_C_weaveIn_12 rfl (lv_at hl17 1 rfl) ?_
  refine lv_iload_n hx hb d_C_weaveIn_13 rfl (lv_at hl17 3 rfl) ?_
  obtain ⟨h9, h⟩ := h
  obtain ⟨c18, c19, k1, k2, h⟩ := h
  obtain ⟨n9, h9⟩ := isK1 h9
  refine q_callR (run_V (As := [.int p1]) (rest := []) S hZ hG hS (s_C_seenNode h) tw_469 tw_466 tw_468 tp_14 tw_1 nk_C_seenNode h9 (by decide) rfl ⟨Nat.le_of_ble_eq_true rfl, Nat.le_of_ble_eq_true rfl⟩ rfl hl17.1 rfl (by decide) d_C_weaveIn_14 ⟨k1, k2⟩) hS (fun o21 g20 H locs h47 hG hS => ?_)
  have hk := And.intro k1 k2
  replace h := h47
  refine q_astore (o := o21) (lv' := [(6, va_rf o21), (5, .ref a14), (0, .ref this), (1, va_rf p0), (2, .int p1), (3, .int p2), (4, .int p3)]) hx hb d_C_weaveIn_17 hl17 (by decide) (.n (.c 0 rfl (by decide) rfl (.k 1 rfl (by decide) (by decide) (.k 2 rfl (by decide) (by decide) (.k 3 rfl (by decide) (by decide) (.k 4 rfl (by decide) (by decide) (.k 5 rfl (by decide) (by decide) .e))))))) (fun ls22 hl22 => ?_)
  refine lv_iconst (v := (0 : Int32)) hx hb d_C_weaveIn_19 (by decide) ?_
  refine q_istore (lv' := [(7, .int ((0 : Int32))), (6, va_rf o21), (5, .ref a14), (0, .ref this), (1, va_rf p0), (2, .int p1), (3, .int p2), (4, .int p3)]) hx hb d_C_weaveIn_20 hl22 (by decide) (.n (.c 0 rfl (by decide) (rf_cat _) (.k 1 rfl (by decide) (by decide) (.k 2 rfl (by decide) (by decide) (.k 3 rfl (by decide) (by decide) (.k 4 rfl (by decide) (by decide) (.k 5 rfl (by decide) (by decide) (.k 6 rfl (by decide) (by decide) .e)))))))) (fun ls23 hl23 => ?_)
  obtain ⟨n46, h⟩ := h
  exact s_C_weaveIn_22 S hZ hr hlk n46 _ _ _ _ _ _ _ _ _ _ _ _ _ hk h hG hS (lv_sub hl23 [3, 4, 6, 7, 2, 1, 0] rfl)
def w_C_insert (z mi mc ms : Nat) (post : Int32 → Sg → Prop) (px : Nat → Sg → Prop) (g : Sg) (this : Nat) (p0 : Int32) (p1 : Int32) (p2 : Int32) (p3 : Int32) : Prop := (∃ c11 c12 : Nat, 0 + c11 ≤ mc ∧ 0 + c12 ≤ ms ∧ w_C_canBeEdit z mi c11 c12 (fun (x14 : Int32) (g13 : Sg) => (x14 = 0 → (0 + c11) + 1 ≤ mc ∧ (0 + c12) + 6 ≤ ms ∧ px 3 g13) ∧ (¬ x14 = 0 → (∃ c15 c16 : Nat, (0 + c11) + c15 ≤ mc ∧ (0 + c12) + c16 ≤ ms ∧ w_C_areCodes z mi c15 c16 (fun (x18 : Int32) (g17 : Sg) => (¬ x18 = 0 → (isK g17 this [4] ∧ ∃ c19 c20 : Nat, ((0 + c11) + c15) + c19 ≤ mc ∧ ((0 + c12) + c16) + c20 ≤ ms ∧ w_C_takeList z mi c19 c20 (fun (x22 : Int32) (g21 : Sg) => (¬ x22 = 0 → (isK g21 this [4] ∧ ∃ c23 c24 : Nat, (((0 + c11) + c15) + c19) + c23 ≤ mc ∧ (((0 + c12) + c16) + c20) + c24 ≤ ms ∧ w_C_countSeen z mi c23 c24 (fun (x26 : Int32) (g25 : Sg) => (p1 ≤ x26 → (isK g25 this [4] ∧ ∃ c27 c28 : Nat, ((((0 + c11) + c15) + c19) + c23) + c27 ≤ mc ∧ ((((0 + c12) + c16) + c20) + c24) + c28 ≤ ms ∧ w_C_hasRoom z mi c27 c28 (fun (x30 : Int32) (g29 : Sg) => (¬ x30 = 0 → (isK g29 this [4] ∧ ∃ c31 c32 : Nat, (((((0 + c11) + c15) + c19) + c23) + c27) + c31 ≤ mc ∧ (((((0 + c12) + c16) + c20) + c24) + c28) + c32 ≤ ms ∧ w_C_authorNamed z mi c31 c32 (fun (o34 : Option Nat) (g33 : Sg) => (isK g33 this [4] ∧ ∃ c35 c36 : Nat, ((((((0 + c11) + c15) + c19) + c23) + c27) + c31) + c35 ≤ mc ∧ ((((((0 + c12) + c16) + c20) + c24) + c28) + c32) + c36 ≤ ms ∧ w_C_weaveIn z mi c35 c36 (fun (g37 : Sg) => (hasI g37 this 28 ∧ ∀ x38 : Int32, x38 = fI g37 28 this → post x38 g37)) g33 this o34 p1 p2 p3)) g29 this p0)) ∧ (x30 = 0 → (((((0 + c11) + c15) + c19) + c23) + c27) + 1 ≤ mc ∧ (((((0 + c12) + c16) + c20) + c24) + c28) + 6 ≤ ms ∧ px 2 g29)) g25 this p0 p3)) ∧ (¬ p1 ≤ x26 → ((((0 + c11) + c15) + c19) + c23) + 1 ≤ mc ∧ ((((0 + c12) + c16) + c20) + c24) + 6 ≤ ms ∧ px 4 g25)) g21 this)) ∧ (x22 = 0 → (((0 + c11) + c15) + c19) + 1 ≤ mc ∧ (((0 + c12) + c16) + c20) + 6 ≤ ms ∧ px 1 g21)) g17 this p0)) ∧ (x18 = 0 → ((0 + c11) + c15) + 1 ≤ mc ∧ ((0 + c12) + c16) + 6 ≤ ms ∧ px 3 g17)) g13 p2 p3))) g p0 p1 p3)
set_option maxHeartbeats 4000000 in
set_option maxRecDepth 100000 in
theorem s_C_insert {l : Launch} {D : va_G} {cA : Nat → ClassId} {sz z mi mc ms : Nat} {g : Sg} {post : Int32 → Sg → Prop} {px : Nat → Sg → Prop} {this : Nat} {p0 : Int32} {p1 : Int32} {p2 : Int32} {p3 : Int32} (hst : l.stackTraces = false) (h : w_C_insert z mi mc ms post px g this p0 p1 p2 p3) : vx_Met l y_C_insert (Cond.code y_C_insert b_C_insert 5 (some FieldType.int) :: TBL) ({ frames := 9, cells := mc, slots := ms, locals := 240 } : Room) (Pg D cA sz z mi [.ref this, .int p0, .int p1, .int p2, .int p3] g) (Qg D cA sz (pI post)) (Xg D cA sz px) mc ms (oA sz) := by
  refine m_codeX (lv := [(0, .ref this), (1, .int p0), (2, .int p1), (3, .int p2), (4, .int p3)]) (by decide +kernel) (Nat.le_of_ble_eq_true rfl) rfl ?_
  intro p e s m below meth c ls hxt S hr hlk hnm hZ hG hS hl
  obtain ⟨hx, hb, hml, hown, hts⟩ := id S
  have hk : 0 ≤ mc ∧ 0 ≤ ms := ⟨Nat.zero_le _, Nat.zero_le _⟩
  refine lv_iload_n hx hb d_C_insert_0 rfl (lv_at hl 1 rfl) ?_
  refine lv_iload_n hx hb d_C_insert_1 rfl (lv_at hl 2 rfl) ?_
  refine lv_iload hx hb d_C_insert_2 (lv_at hl 4 rfl) ?_
  obtain ⟨c11, c12, k1, k2, h⟩ := h
  refine q_callI (run_S (As := [.int p0, .int p1, .int p3]) (rest := []) S hZ hG hS (s_C_canBeEdit h) tw_405 tw_403 tw_404 tw_1 nk_C_canBeEdit ⟨Nat.le_of_ble_eq_true rfl, Nat.le_of_ble_eq_true rfl⟩ rfl hl.1 rfl (by decide) d_C_insert_4 ⟨k1, k2⟩) hS (fun x14 g13 H locs h45 hG hS => ?_)
  have hk := And.intro k1 k2
  replace h := h45
  refine lv_if_eq (tgt := 19) hx hb d_C_insert_7 (by decide) (fun c9 => ?_) (fun c9 => ?_)
  · replace h := h.1 c9
    exact r_throw (i := 3) S hst hZ hG hS (by decide) tw_413 tw_20 xa_C_101_103 xb_C_101_103 xo_C_101_103 hl.1 d_C_insert_19 d_C_insert_22 d_C_insert_23 d_C_insert_26 (fun x hx => (hxt x hx).elim) (Nat.le_of_ble_eq_true rfl) (Nat.le_of_ble_eq_true rfl) rfl rfl hlk h.2.2 h.1 h.2.1
  · replace h := h.2 c9
    refine lv_iload_n hx hb d_C_insert_10 rfl (lv_at hl 3 rfl) ?_
    refine lv_iload hx hb d_C_insert_11 (lv_at hl 4 rfl) ?_
    obtain ⟨c15, c16, k1, k2, h⟩ := h
    refine q_callI (run_S (As := [.int p2, .int p3]) (rest := []) S hZ hG hS (s_C_areCodes h) tw_411 tw_409 tw_410 tw_1 nk_C_areCodes ⟨Nat.le_of_ble_eq_true rfl, Nat.le_of_ble_eq_true rfl⟩ rfl hl.1 rfl (by decide) d_C_insert_13 ⟨k1, k2⟩) hS (fun x18 g17 H locs h44 hG hS => ?_)
    have hk := And.intro k1 k2
    replace h := h44
    refine lv_if_ne (tgt := 27) hx hb d_C_insert_16 (by decide) (fun c9 => ?_) (fun c9 => ?_)
    · replace h := h.1 c9
      refine lv_aload_n hx hb d_C_insert_27 rfl (lv_at hl 0 rfl) ?_
      refine lv_iload_n hx hb d_C_insert_28 rfl (lv_at hl 1 rfl) ?_
      obtain ⟨h9, h⟩ := h
      obtain ⟨c19, c20, k1, k2, h⟩ := h
      obtain ⟨n9, h9⟩ := isK1 h9
      refine q_callI (run_V (As := [.int p0]) (rest := []) S hZ hG hS (s_C_takeList h) tw_431 tw_428 tw_430 tp_10 tw_1 nk_C_takeList h9 (by decide) rfl ⟨Nat.le_of_ble_eq_true rfl, Nat.le_of_ble_eq_true rfl⟩ rfl hl.1 rfl (by decide) d_C_insert_29 ⟨k1, k2⟩) hS (fun x22 g21 H locs h43 hG hS => ?_)
      have hk := And.intro k1 k2
      replace h := h43
      refine lv_if_ne (tgt := 43) hx hb d_C_insert_32 (by decide) (fun c9 => ?_) (fun c9 => ?_)
      · replace h := h.1 c9
        refine lv_iload_n hx hb d_C_insert_43 rfl (lv_at hl 2 rfl) ?_
        refine lv_aload_n hx hb d_C_insert_44 rfl (lv_at hl 0 rfl) ?_
        obtain ⟨h9, h⟩ := h
        obtain ⟨c23, c24, k1, k2, h⟩ := h
        obtain ⟨n9, h9⟩ := isK1 h9
        refine q_callI (run_V (As := []) (rest := [.int p1]) S hZ hG hS (s_C_countSeen h) tw_378 tw_375 tw_377 tp_8 tw_1 nk_C_countSeen h9 (by decide) rfl ⟨Nat.le_of_ble_eq_true rfl, Nat.le_of_ble_eq_true rfl⟩ rfl hl.1 rfl (Nat.le_of_ble_eq_true rfl) d_C_insert_45 ⟨k1, k2⟩) hS (fun x26 g25 H locs h42 hG hS => ?_)
        have hk := And.intro k1 k2
        replace h := h42
        refine lv_icmp_le (tgt := 59) hx hb d_C_insert_48 (by decide) (fun c9 => ?_) (fun c9 => ?_)
        · replace h := h.1 c9
          refine lv_aload_n hx hb d_C_insert_59 rfl (lv_at hl 0 rfl) ?_
          refine lv_iload_n hx hb d_C_insert_60 rfl (lv_at hl 1 rfl) ?_
          refine lv_iload hx hb d_C_insert_61 (lv_at hl 4 rfl) ?_
          obtain ⟨h9, h⟩ := h
          obtain ⟨c27, c28, k1, k2, h⟩ := h
          obtain ⟨n9, h9⟩ := isK1 h9
          refine q_callI (run_V (As := [.int p0, .int p3]) (rest := []) S hZ hG hS (s_C_hasRoom h) tw_450 tw_447 tw_449 tp_11 tw_1 nk_C_hasRoom h9 (by decide) rfl ⟨Nat.le_of_ble_eq_true rfl, Nat.le_of_ble_eq_true rfl⟩ rfl hl.1 rfl (by decide) d_C_insert_63 ⟨k1, k2⟩) hS (fun x30 g29 H locs h41 hG hS => ?_)
          have hk := And.intro k1 k2
          replace h := h41
          refine lv_if_ne (tgt := 77) hx hb d_C_insert_66 (by decide) (fun c9 => ?_) (fun c9 => ?_)
          · replace h := h.1 c9
            refine lv_aload_n hx hb d_C_insert_77 rfl (lv_at hl 0 rfl) ?_
            refine lv_aload_n hx hb d_C_insert_78 rfl (lv_at hl 0 rfl) ?_
            refine lv_iload_n hx hb d_C_insert_79 rfl (lv_at hl 1 rfl) ?_
            obtain ⟨h9, h⟩ := h
            obtain ⟨c31, c32, k1, k2, h⟩ := h
            obtain ⟨n9, h9⟩ := isK1 h9
            refine q_callR (run_V (As := [.int p0]) (rest := [.ref this]) S hZ hG hS (s_C_authorNamed h) tw_454 tw_451 tw_453 tp_12 tw_1 nk_C_authorNamed h9 (by decide) rfl ⟨Nat.le_of_ble_eq_true rfl, Nat.le_of_ble_eq_true rfl⟩ rfl hl.1 rfl (Nat.le_of_ble_eq_true rfl) d_C_insert_80 ⟨k1, k2⟩) hS (fun o34 g33 H locs h40 hG hS => ?_)
            have hk := And.intro k1 k2
            replace h := h40
            refine lv_iload_n hx hb d_C_insert_83 rfl (lv_at hl 2 rfl) ?_
            refine lv_iload_n hx hb d_C_insert_84 rfl (lv_at hl 3 rfl) ?_
            refine lv_iload hx hb d_C_insert_85 (lv_at hl 4 rfl) ?_
            obtain ⟨h9, h⟩ := h
            obtain ⟨c35, c36, k1, k2, h⟩ := h
            obtain ⟨n9, h9⟩ := isK1 h9
            refine q_callV (run_V (As := [va_rf o34, .int p1, .int p2, .int p3]) (rest := []) S hZ hG hS (s_C_weaveIn h) tw_458 tw_455 tw_457 tp_13 tw_1 nk_C_weaveIn h9 (by decide) rfl ⟨Nat.le_of_ble_eq_true rfl, Nat.le_of_ble_eq_true rfl⟩ rfl hl.1 rfl (by decide) d_C_insert_87 ⟨k1, k2⟩) hS (fun g37 H locs h39 hG hS => ?_)
            have hk := And.intro k1 k2
            replace h := h39
            refine lv_aload_n hx hb d_C_insert_90 rfl (lv_at hl 0 rfl) ?_
            refine r_getI (f := 28) S hZ hG rfl h.1 (hts _ tw_159) (fun _ h9 => h9) d_C_insert_91 (fun x38 e9 => ?_)
            replace h := h.2 x38 e9
            exact vx_ret (r_iret (v := x38) S hr hlk hG hS h hk.1 hk.2 d_C_insert_94)
          · replace h := h.2 c9
            exact r_throw (i := 2) S hst hZ hG hS (by decide) tw_333 tw_17 xa_C_68_70 xb_C_68_70 xo_C_68_70 hl.1 d_C_insert_69 d_C_insert_72 d_C_insert_73 d_C_insert_76 (fun x hx => (hxt x hx).elim) (Nat.le_of_ble_eq_true rfl) (Nat.le_of_ble_eq_true rfl) rfl rfl hlk h.2.2 h.1 h.2.1
        · replace h := h.2 c9
          exact r_throw (i := 4) S hst hZ hG hS (by decide) tw_432 tw_21 xa_C_108_110 xb_C_108_110 xo_C_108_110 hl.1 d_C_insert_51 d_C_insert_54 d_C_insert_55 d_C_insert_58 (fun x hx => (hxt x hx).elim) (Nat.le_of_ble_eq_true rfl) (Nat.le_of_ble_eq_true rfl) rfl rfl hlk h.2.2 h.1 h.2.1
      · replace h := h.2 c9
        exact r_throw (i := 1) S hst hZ hG hS (by decide) tw_318 tw_16 xa_C_65_67 xb_C_65_67 xo_C_65_67 hl.1 d_C_insert_35 d_C_insert_38 d_C_insert_39 d_C_insert_42 (fun x hx => (hxt x hx).elim) (Nat.le_of_ble_eq_true rfl) (Nat.le_of_ble_eq_true rfl) rfl rfl hlk h.2.2 h.1 h.2.1
    · replace h := h.2 c9
      exact r_throw (i := 3) S hst hZ hG hS (by decide) tw_413 tw_20 xa_C_101_103 xb_C_101_103 xo_C_101_103 hl.1 d_C_insert_19 d_C_insert_22 d_C_insert_23 d_C_insert_26 (fun x hx => (hxt x hx).elim) (Nat.le_of_ble_eq_true rfl) (Nat.le_of_ble_eq_true rfl) rfl rfl hlk h.2.2 h.1 h.2.1
def w_L_insert (z mi mc ms : Nat) (post : Int32 → Sg → Prop) (g : Sg) (p0 : Option Nat) (p1 : Int32) (p2 : Int32) (p3 : Int32) (p4 : Int32) (p5 : Option Nat) : Prop := ∃ a11, p0 = some a11 ∧ (isK g a11 [4] ∧ ∃ c13 c14 : Nat, 0 + c13 ≤ mc ∧ 0 + c14 ≤ ms ∧ w_C_insert z mi c13 c14 (fun (x16 : Int32) (g15 : Sg) => ∃ a17, p5 = some a17 ∧ (∃ j19 : Nat, inA g15 a17 103 (0 : Int32) j19 ∧ ∀ g20 : Sg, g20 = sL g15 a17 j19 (x16.toInt64) → post (0 : Int32) g20)) (fun (i21 : Nat) (g22 : Sg) => (i21 = 1 ∧ post (2 : Int32) g22) ∨ (i21 = 2 ∧ post (4 : Int32) g22) ∨ (i21 = 3 ∧ post (1 : Int32) g22) ∨ (i21 = 4 ∧ post (3 : Int32) g22)) g a11 p1 p2 p3 p4)
set_option maxHeartbeats 4000000 in
set_option maxRecDepth 100000 in
theorem s_L_insert {l : Launch} {D : va_G} {cA : Nat → ClassId} {sz z mi mc ms : Nat} {g : Sg} {post : Int32 → Sg → Prop} {p0 : Option Nat} {p1 : Int32} {p2 : Int32} {p3 : Int32} {p4 : Int32} {p5 : Option Nat} (hst : l.stackTraces = false) (h : w_L_insert z mi mc ms post g p0 p1 p2 p3 p4 p5) : Met l y_L_insert (Cond.codeWith y_L_insert b_L_insert 7 (some FieldType.int) [(0, 14, 17, 27), (0, 14, 21, 15), (0, 14, 25, 29), (0, 14, 29, 17)] :: TBL) ({ frames := 10, cells := mc, slots := ms, locals := 264 } : Room) (Pg D cA sz z mi [va_rf p0, .int p1, .int p2, .int p3, .int p4, va_rf p5] g) (Qg D cA sz (pI post)) mc ms (oA sz) := by
  refine m_codeW (lv := [(0, va_rf p0), (1, .int p1), (2, .int p2), (3, .int p3), (4, .int p4), (5, va_rf p5)]) (by decide +kernel) (by simp [lg_sl, rf_cat, cat_i, cat_r, cat_l]) (by simp [lv_args, rf_cat, cat_i, cat_r, cat_l]) ?_
  intro p e s m below meth c ls htb S hr hlk hnm hZ hG hS hl
  obtain ⟨hx, hb, hml, hown, hts⟩ := id S
  have hk : 0 ≤ mc ∧ 0 ≤ ms := ⟨Nat.zero_le _, Nat.zero_le _⟩
  refine q_aload hx hb d_L_insert_0 (lv_at hl 5 rfl) ?_
  refine lv_iconst (v := (0 : Int32)) hx hb d_L_insert_2 (by decide) ?_
  refine q_aload_n hx hb d_L_insert_3 rfl (lv_at hl 0 rfl) ?_
  refine lv_iload_n hx hb d_L_insert_4 rfl (lv_at hl 1 rfl) ?_
  refine lv_iload_n hx hb d_L_insert_5 rfl (lv_at hl 2 rfl) ?_
  refine lv_iload_n hx hb d_L_insert_6 rfl (lv_at hl 3 rfl) ?_
  refine lv_iload hx hb d_L_insert_7 (lv_at hl 4 rfl) ?_
  obtain ⟨a11, e9, h⟩ := h
  subst e9
  have hl12 : lv_has ls 7 [(0, .ref a11), (1, .int p1), (2, .int p2), (3, .int p3), (4, .int p4), (5, va_rf p5)] := hl
  obtain ⟨h9, h⟩ := h
  obtain ⟨c13, c14, k1, k2, h⟩ := h
  obtain ⟨n9, h9⟩ := isK1 h9
  refine x_callI (xrun_V (As := [.int p1, .int p2, .int p3, .int p4]) (rest := [.int ((0 : Int32)), va_rf p5]) S hZ hG hS (s_C_insert hst h) tw_402 tw_399 tw_400 tw_401 tw_1 nk_C_insert h9 (by decide) rfl ⟨Nat.le_of_ble_eq_true rfl, Nat.le_of_ble_eq_true rfl⟩ rfl hl.1 rfl (by simp [rf_cat, cat_i, cat_r, cat_l]) d_L_insert_9 ⟨k1, k2⟩) hS (fun i9 ce q9 g22 H locs hi h32 hG hS hq1 hq2 hq3 => ?_) (fun x16 g15 H locs h31 hG hS => ?_)
  · have hk := And.intro k1 k2
    replace h := h32
    rcases h with ⟨rfl, h⟩ | ⟨rfl, h⟩ | ⟨rfl, h⟩ | ⟨rfl, h⟩
    · refine r_catch (i := 1) S hZ (by decide) [⟨0, 14, 17, 27⟩] ⟨0, 14, 21, 15⟩ [⟨0, 14, 25, 29⟩, ⟨0, 14, 29, 17⟩] htb (List.forall_mem_cons.mpr ⟨⟨by decide, 3, by decide, by decide, tw_397⟩, (fun y hy => nomatch hy)⟩) (by decide) (by decide) tw_233 hq1 hq2 hq3 ?_
      refine q_astore (o := (some q9)) (lv' := [(0, .ref a11), (1, .int p1), (2, .int p2), (3, .int p3), (4, .int p4), (5, va_rf p5)]) hx hb d_L_insert_21 hl12 (by decide) (.k 0 rfl (by decide) (by decide) (.k 1 rfl (by decide) (by decide) (.k 2 rfl (by decide) (by decide) (.k 3 rfl (by decide) (by decide) (.k 4 rfl (by decide) (by decide) (.c 5 rfl (by decide) (rf_cat _) .e)))))) (fun ls24 hl24 => ?_)
      refine lv_iconst (v := (2 : Int32)) hx hb d_L_insert_23 (by decide) ?_
      exact r_iret (v := (2 : Int32)) S hr hlk hG hS h hk.1 hk.2 d_L_insert_24
    · refine r_catch (i := 2) S hZ (by decide) [⟨0, 14, 17, 27⟩, ⟨0, 14, 21, 15⟩, ⟨0, 14, 25, 29⟩] ⟨0, 14, 29, 17⟩ [] htb (List.forall_mem_cons.mpr ⟨⟨by decide, 3, by decide, by decide, tw_397⟩, (List.forall_mem_cons.mpr ⟨⟨by decide, 1, by decide, by decide, tw_233⟩, (List.forall_mem_cons.mpr ⟨⟨by decide, 4, by decide, by decide, tw_398⟩, (fun y hy => nomatch hy)⟩)⟩)⟩) (by decide) (by decide) tw_234 hq1 hq2 hq3 ?_
      refine q_astore (o := (some q9)) (lv' := [(0, .ref a11), (1, .int p1), (2, .int p2), (3, .int p3), (4, .int p4), (5, va_rf p5)]) hx hb d_L_insert_29 hl12 (by decide) (.k 0 rfl (by decide) (by decide) (.k 1 rfl (by decide) (by decide) (.k 2 rfl (by decide) (by decide) (.k 3 rfl (by decide) (by decide) (.k 4 rfl (by decide) (by decide) (.c 5 rfl (by decide) (rf_cat _) .e)))))) (fun ls26 hl26 => ?_)
      refine lv_iconst (v := (4 : Int32)) hx hb d_L_insert_31 (by decide) ?_
      exact r_iret (v := (4 : Int32)) S hr hlk hG hS h hk.1 hk.2 d_L_insert_32
    · refine r_catch (i := 3) S hZ (by decide) [] ⟨0, 14, 17, 27⟩ [⟨0, 14, 21, 15⟩, ⟨0, 14, 25, 29⟩, ⟨0, 14, 29, 17⟩] htb (fun y hy => nomatch hy) (by decide) (by decide) tw_397 hq1 hq2 hq3 ?_
      refine q_astore (o := (some q9)) (lv' := [(0, .ref a11), (1, .int p1), (2, .int p2), (3, .int p3), (4, .int p4), (5, va_rf p5)]) hx hb d_L_insert_17 hl12 (by decide) (.k 0 rfl (by decide) (by decide) (.k 1 rfl (by decide) (by decide) (.k 2 rfl (by decide) (by decide) (.k 3 rfl (by decide) (by decide) (.k 4 rfl (by decide) (by decide) (.c 5 rfl (by decide) (rf_cat _) .e)))))) (fun ls28 hl28 => ?_)
      refine lv_iconst (v := (1 : Int32)) hx hb d_L_insert_19 (by decide) ?_
      exact r_iret (v := (1 : Int32)) S hr hlk hG hS h hk.1 hk.2 d_L_insert_20
    · refine r_catch (i := 4) S hZ (by decide) [⟨0, 14, 17, 27⟩, ⟨0, 14, 21, 15⟩] ⟨0, 14, 25, 29⟩ [⟨0, 14, 29, 17⟩] htb (List.forall_mem_cons.mpr ⟨⟨by decide, 3, by decide, by decide, tw_397⟩, (List.forall_mem_cons.mpr ⟨⟨by decide, 1, by decide, by decide, tw_233⟩, (fun y hy => nomatch hy)⟩)⟩) (by decide) (by decide) tw_398 hq1 hq2 hq3 ?_
      refine q_astore (o := (some q9)) (lv' := [(0, .ref a11), (1, .int p1), (2, .int p2), (3, .int p3), (4, .int p4), (5, va_rf p5)]) hx hb d_L_insert_25 hl12 (by decide) (.k 0 rfl (by decide) (by decide) (.k 1 rfl (by decide) (by decide) (.k 2 rfl (by decide) (by decide) (.k 3 rfl (by decide) (by decide) (.k 4 rfl (by decide) (by decide) (.c 5 rfl (by decide) (rf_cat _) .e)))))) (fun ls30 hl30 => ?_)
      refine lv_iconst (v := (3 : Int32)) hx hb d_L_insert_27 (by decide) ?_
      exact r_iret (v := (3 : Int32)) S hr hlk hG hS h hk.1 hk.2 d_L_insert_28
  · have hk := And.intro k1 k2
    replace h := h31
    refine lv_i2l hx hb d_L_insert_12 rfl ?_
    obtain ⟨a17, e9, h⟩ := h
    subst e9
    have hl18 : lv_has ls 7 [(0, .ref a11), (1, .int p1), (2, .int p2), (3, .int p3), (4, .int p4), (5, .ref a17)] := hl12
    obtain ⟨j19, h9, h⟩ := h
    refine r_last S hZ hG hS h9 d_L_insert_13 (fun g20 H locs e9 hG hS => ?_)
    replace h := h g20 e9
    refine lv_goto (tgt := 33) hx hb d_L_insert_14 (by decide) ?_
    refine lv_iconst (v := (0 : Int32)) hx hb d_L_insert_33 (by decide) ?_
    exact r_iret (v := (0 : Int32)) S hr hlk hG hS h hk.1 hk.2 d_L_insert_34
def w_K_init (z mi mc ms : Nat) (post : Sg → Prop) (g : Sg) (this : Nat) (p0 : Option Nat) (p1 : Option Nat) : Prop := (∃ c11 c12 : Nat, 0 + c11 ≤ mc ∧ 0 + c12 ≤ ms ∧ w_E_init z mi c11 c12 (fun (g13 : Sg) => post g13) g this p0 p1)
set_option maxHeartbeats 4000000 in
set_option maxRecDepth 100000 in
theorem s_K_init {l : Launch} {D : va_G} {cA : Nat → ClassId} {sz z mi mc ms : Nat} {g : Sg} {post : Sg → Prop} {this : Nat} {p0 : Option Nat} {p1 : Option Nat} (h : w_K_init z mi mc ms post g this p0 p1) : Met l y_K_init (Cond.code y_K_init b_K_init 3 none :: TBL) ({ frames := 2, cells := mc, slots := ms, locals := 44 } : Room) (Pg D cA sz z mi [.ref this, va_rf p0, va_rf p1] g) (Qg D cA sz (pV post)) mc ms (oA sz) := by
  refine m_code (lv := [(0, .ref this), (1, va_rf p0), (2, va_rf p1)]) (by decide +kernel) (by simp [lg_sl, rf_cat, cat_i, cat_r, cat_l]) (by simp [lv_args, rf_cat, cat_i, cat_r, cat_l]) ?_
  intro p e s m below meth c ls S hr hlk hnm hZ hG hS hl
  obtain ⟨hx, hb, hml, hown, hts⟩ := id S
  have hk : 0 ≤ mc ∧ 0 ≤ ms := ⟨Nat.zero_le _, Nat.zero_le _⟩
  refine lv_aload_n hx hb d_K_init_0 rfl (lv_at hl 0 rfl) ?_
  refine q_aload_n hx hb d_K_init_1 rfl (lv_at hl 1 rfl) ?_
  refine q_aload_n hx hb d_K_init_2 rfl (lv_at hl 2 rfl) ?_
  obtain ⟨c11, c12, k1, k2, h⟩ := h
  refine q_callV (run_I (As := [va_rf p0, va_rf p1]) (rest := []) S hZ hG hS (s_E_init h) tw_94 tw_602 tw_93 tw_5 rfl nk_E_init ⟨Nat.le_of_ble_eq_true rfl, Nat.le_of_ble_eq_true rfl⟩ rfl hl.1 rfl (by decide) d_K_init_3 ⟨k1, k2⟩) hS (fun g13 H locs h14 hG hS => ?_)
  have hk := And.intro k1 k2
  replace h := h14
  exact r_vret S hr hlk hG hS h hk.1 hk.2 d_K_init_6
def w_C_cutOut_77 (z mi mc ms : Nat) (post : Sg → Prop) (k_24 : Nat → Nat → Sg → Nat → Option Nat → Int32 → Option Nat → Option Nat → Int32 → Prop) : Nat → Nat → Sg → Nat → Option Nat → Int32 → Option Nat → Option Nat → Int32 → Option Nat → Prop := fun kc ks g this v1 v3 v4 v5 v6 v7 => ∃ a44, v5 = some a44 ∧ (hasR g a44 19 ∧ ∀ o46 : Option Nat, o46 = fR g 19 a44 → ∃ a47, v7 = some a47 ∧ (hasR g a47 12 ∧ ∀ g49 : Sg, g49 = wR g 12 a47 o46 → (hasR g49 a44 19 ∧ ∀ g50 : Sg, g50 = wR g49 19 a44 (some a47) → (isK g50 this [4] ∧ ∃ c51 c52 : Nat, kc + c51 ≤ mc ∧ ks + c52 ≤ ms ∧ w_C_keep z mi c51 c52 (fun (g53 : Sg) => (isK g53 this [4] ∧ ∃ c54 c55 : Nat, (kc + c51) + c54 ≤ mc ∧ (ks + c52) + c55 ≤ ms ∧ w_C_nextSeen z mi c54 c55 (fun (o57 : Option Nat) (g56 : Sg) => k_24 ((kc + c51) + c54) ((ks + c52) + c55) g56 this v1 v3 v4 o57 (v6 + (1 : Int32))) g53 this (some a44))) g50 this (some a47)))))
set_option maxHeartbeats 4000000 in
set_option maxRecDepth 100000 in
theorem s_C_cutOut_77 {p : Program} {l : Launch} {e : Env} {s : State} {m : MethodId} {args : Array Value} {below : List Frame} {meth : Method} {c : Code} {D : va_G} {cA : Nat → ClassId} {sz z mi mc ms : Nat} {post : Sg → Prop}  {k_24 : Nat → Nat → Sg → Nat → Option Nat → Int32 → Option Nat → Option Nat → Int32 → Prop} (S : CallFix p m c b_C_cutOut 8 s args TBL "WeaveCore") (hZ : Ws D cA sz z mi s) (hr : meth.sig.returnType = none) (hlk : meth.locks = false) (hk_24 : ∀ (kc ks : Nat) (g : Sg) (this : Nat) (v1 : Option Nat) (v3 : Int32) (v4 : Option Nat) (v5 : Option Nat) (v6 : Int32) (H : Heap) (locs : List Loc) (ls : Array Slot), kc ≤ mc ∧ ks ≤ ms → k_24 kc ks g this v1 v3 v4 v5 v6 → WP D cA sz g H → va_S (oA sz) s.heap H locs → lv_has ls 8 [(0, .ref this), (1, va_rf v1), (3, .int v3), (4, va_rf v4), (5, va_rf v5), (6, .int v6)] → W p l e ({ frames := 8, cells := mc, slots := ms, locals := 212 } : Room) s m args below meth c H locs kc ks (MQ below (Qg D cA sz (pV post)) args s mc ms (oA sz)) (F0 m 24 ls [])) :
    ∀ (kc ks : Nat) (g : Sg) (this : Nat) (v1 : Option Nat) (v3 : Int32) (v4 : Option Nat) (v5 : Option Nat) (v6 : Int32) (v7 : Option Nat) (H : Heap) (locs : List Loc) (ls : Array Slot), kc ≤ mc ∧ ks ≤ ms → w_C_cutOut_77 z mi mc ms post k_24 kc ks g this v1 v3 v4 v5 v6 v7 → WP D cA sz g H → va_S (oA sz) s.heap H locs → lv_has ls 8 [(0, .ref this), (1, va_rf v1), (3, .int v3), (4, va_rf v4), (5, va_rf v5), (6, .int v6), (7, va_rf v7)] → W p l e ({ frames := 8, cells := mc, slots := ms, locals := 212 } : Room) s m args below meth c H locs kc ks (MQ below (Qg D cA sz (pV post)) args s mc ms (oA sz)) (F0 m 77 ls []) := by
  obtain ⟨hx, hb, hml, hown, hts⟩ := id S
  intro kc ks g this v1 v3 v4 v5 v6 v7 H locs ls hk h hG hS hl
  refine q_aload hx hb d_C_cutOut_77 (lv_at hl 6 rfl) ?_
  refine q_aload hx hb d_C_cutOut_79 (lv_at hl 4 rfl) ?_
  obtain ⟨a44, e9, h⟩ := h
  subst e9
  have hl45 : lv_has ls 8 [(0, .ref this), (1, va_rf v1), (3, .int v3), (4, va_rf v4), (5, .ref a44), (6, .int v6), (7, va_rf v7)] := hl
  refine r_getR (f := 19) S hZ hG rfl h.1 (hts _ tw_110) (fun _ h9 => h9) d_C_cutOut_81 (fun o46 e9 => ?_)
  replace h := h.2 o46 e9
  obtain ⟨a47, e9, h⟩ := h
  subst e9
  have hl48 : lv_has ls 8 [(0, .ref this), (1, va_rf v1), (3, .int v3), (4, va_rf v4), (5, .ref a44), (6, .int v6), (7, .ref a47)] := hl45
  refine r_putR (f := 12) (v := o46) S hZ hG hS rfl h.1 (hts _ tw_604) (fun _ h9 => h9) (Or.inl rfl) d_C_cutOut_84 (fun g49 H locs e9 hG hS => ?_)
  replace h := h.2 g49 e9
  refine lv_aload hx hb d_C_cutOut_87 (lv_at hl48 4 rfl) ?_
  refine lv_aload hx hb d_C_cutOut_89 (lv_at hl48 6 rfl) ?_
  refine r_putR (f := 19) (v := (some a47)) S hZ hG hS rfl h.1 (hts _ tw_110) (fun _ h9 => h9) (Or.inl rfl) d_C_cutOut_91 (fun g50 H locs e9 hG hS => ?_)
  replace h := h.2 g50 e9
  refine lv_aload_n hx hb d_C_cutOut_94 rfl (lv_at hl48 0 rfl) ?_
  refine lv_aload hx hb d_C_cutOut_95 (lv_at hl48 6 rfl) ?_
  obtain ⟨h9, h⟩ := h
  obtain ⟨c51, c52, k1, k2, h⟩ := h
  obtain ⟨n9, h9⟩ := isK1 h9
  refine q_callV (run_V (As := [va_rf (some a47)]) (rest := []) S hZ hG hS (s_C_keep h) tw_528 tw_525 tw_527 tp_24 tw_1 nk_C_keep h9 (by decide) rfl ⟨Nat.le_of_ble_eq_true rfl, Nat.le_of_ble_eq_true rfl⟩ rfl hl48.1 rfl (by decide) d_C_cutOut_97 ⟨k1, k2⟩) hS (fun g53 H locs h61 hG hS => ?_)
  have hk := And.intro k1 k2
  replace h := h61
  refine lv_aload_n hx hb d_C_cutOut_100 rfl (lv_at hl48 0 rfl) ?_
  refine lv_aload hx hb d_C_cutOut_101 (lv_at hl48 4 rfl) ?_
  obtain ⟨h9, h⟩ := h
  obtain ⟨c54, c55, k1, k2, h⟩ := h
  obtain ⟨n9, h9⟩ := isK1 h9
  refine q_callR (run_V (As := [va_rf (some a44)]) (rest := []) S hZ hG hS (s_C_nextSeen h) tw_382 tw_379 tw_381 tp_9 tw_1 nk_C_nextSeen h9 (by decide) rfl ⟨Nat.le_of_ble_eq_true rfl, Nat.le_of_ble_eq_true rfl⟩ rfl hl48.1 rfl (by decide) d_C_cutOut_103 ⟨k1, k2⟩) hS (fun o57 g56 H locs h60 hG hS => ?_)
  have hk := And.intro k1 k2
  replace h := h60
  refine q_astore (o := o57) (lv' := [(5, va_rf o57), (0, .ref this), (1, va_rf v1), (3, .int v3), (4, va_rf v4), (6, .int v6), (7, .ref a47)]) hx hb d_C_cutOut_106 hl48 (by decide) (.n (.k 0 rfl (by decide) (by decide) (.k 1 rfl (by decide) (by decide) (.k 2 rfl (by decide) (by decide) (.c 3 rfl (by decide) (rf_cat _) (.k 5 rfl (by decide) (by decide) (.k 6 rfl (by decide) (by decide) .e))))))) (fun ls58 hl58 => ?_)
  refine q_iinc (k := 5) (v := v6 + (1 : Int32)) (lv' := [(6, .int (v6 + (1 : Int32))), (5, va_rf o57), (0, .ref this), (1, va_rf v1), (3, .int v3), (4, va_rf v4), (7, .ref a47)]) hx hb d_C_cutOut_108 hl58 rfl rfl (by decide) (.n (.c 0 rfl (by decide) (rf_cat _) (.k 1 rfl (by decide) (by decide) (.k 2 rfl (by decide) (by decide) (.k 3 rfl (by decide) (by decide) (.k 4 rfl (by decide) (by decide) (.k 6 rfl (by decide) (by decide) .e))))))) (fun ls59 hl59 => ?_)
  refine lv_goto (tgt := 24) hx hb d_C_cutOut_111 (by decide) ?_
  exact hk_24 _ _ _ _ _ _ _ _ _ _ _ _ hk h hG hS (lv_sub hl59 [2, 3, 4, 5, 1, 0] rfl)
def w_C_cutOut_24 (z mi mc ms : Nat) (post : Sg → Prop) : Nat → Nat → Nat → Sg → Nat → Option Nat → Int32 → Option Nat → Option Nat → Int32 → Prop
  | 0 => fun _ _ _ _ _ _ _ _ _ => False
  | n + 1 => fun kc ks g this v1 v3 v4 v5 v6 => (v3 ≤ v6 → post g) ∧ (¬ v3 ≤ v6 → (v5 = none → post g) ∧ (∀ a24, v5 = some a24 → (kc + 1 ≤ mc ∧ ks + 6 ≤ ms ∧ ∀ a27 : Nat, hT g a27 = none → ∀ g28 : Sg, g28 = nO g a27 2 6 → (∃ c29 c30 : Nat, (kc + 1) + c29 ≤ mc ∧ (ks + 6) + c30 ≤ ms ∧ w_K_init z mi c29 c30 (fun (g31 : Sg) => (hasR g31 a24 19 ∧ ∀ o33 : Option Nat, o33 = fR g31 19 a24 → (o33 = none → (hasR g31 this 22 ∧ ∀ o35 : Option Nat, o35 = fR g31 22 this → ∃ a36, o35 = some a36 ∧ (isK g31 a36 [0] ∧ ∃ c37 c38 : Nat, ((kc + 1) + c29) + c37 ≤ mc ∧ ((ks + 6) + c30) + c38 ≤ ms ∧ w_AL_size z mi c37 c38 (fun (x40 : Int32) (g39 : Sg) => (hasI g39 a24 20 ∧ ∀ g41 : Sg, g41 = wI g39 20 a24 x40 → (hasI g41 this 28 ∧ ∀ x42 : Int32, x42 = fI g41 28 this → (hasI g41 this 28 ∧ ∀ g43 : Sg, g43 = wI g41 28 this (x42 - (1 : Int32)) → w_C_cutOut_77 z mi mc ms post (w_C_cutOut_24 z mi mc ms post n) (((kc + 1) + c29) + c37) (((ks + 6) + c30) + c38) g43 this v1 v3 v4 (some a24) v6 (some a27))))) g31 a36))) ∧ (∀ a34, o33 = some a34 → w_C_cutOut_77 z mi mc ms post (w_C_cutOut_24 z mi mc ms post n) ((kc + 1) + c29) ((ks + 6) + c30) g31 this v1 v3 v4 (some a24) v6 (some a27)))) g28 a27 v1 v4))))
set_option maxHeartbeats 4000000 in
set_option maxRecDepth 100000 in
theorem s_C_cutOut_24 {p : Program} {l : Launch} {e : Env} {s : State} {m : MethodId} {args : Array Value} {below : List Frame} {meth : Method} {c : Code} {D : va_G} {cA : Nat → ClassId} {sz z mi mc ms : Nat} {post : Sg → Prop} (S : CallFix p m c b_C_cutOut 8 s args TBL "WeaveCore") (hZ : Ws D cA sz z mi s) (hr : meth.sig.returnType = none) (hlk : meth.locks = false) :
    ∀ n : Nat, ∀ (kc ks : Nat) (g : Sg) (this : Nat) (v1 : Option Nat) (v3 : Int32) (v4 : Option Nat) (v5 : Option Nat) (v6 : Int32) (H : Heap) (locs : List Loc) (ls : Array Slot), kc ≤ mc ∧ ks ≤ ms → w_C_cutOut_24 z mi mc ms post n kc ks g this v1 v3 v4 v5 v6 → WP D cA sz g H → va_S (oA sz) s.heap H locs → lv_has ls 8 [(0, .ref this), (1, va_rf v1), (3, .int v3), (4, va_rf v4), (5, va_rf v5), (6, .int v6)] → W p l e ({ frames := 8, cells := mc, slots := ms, locals := 212 } : Room) s m args below meth c H locs kc ks (MQ below (Qg D cA sz (pV post)) args s mc ms (oA sz)) (F0 m 24 ls []) := by
  obtain ⟨hx, hb, hml, hown, hts⟩ := id S
  intro n
  induction n with
  | zero =>
    intro kc ks g this v1 v3 v4 v5 v6 H locs ls hk h hG hS hl
    exact h.elim
  | succ n ih =>
    intro kc ks g this v1 v3 v4 v5 v6 H locs ls hk h hG hS hl
    refine lv_iload hx hb d_C_cutOut_24 (lv_at hl 5 rfl) ?_
    refine lv_iload_n hx hb d_C_cutOut_26 rfl (lv_at hl 2 rfl) ?_
    refine lv_icmp_ge (tgt := 114) hx hb d_C_cutOut_27 (by decide) (fun c9 => ?_) (fun c9 => ?_)
    · replace h := h.1 c9
      exact r_vret S hr hlk hG hS h hk.1 hk.2 d_C_cutOut_114
    · replace h := h.2 c9
      refine q_aload hx hb d_C_cutOut_30 (lv_at hl 4 rfl) ?_
      refine q_ifnull (tgt := 114) hx hb d_C_cutOut_32 (by decide) (fun e9 => ?_) (fun a24 e9 => ?_)
      · replace h := h.1 e9
        subst e9
        have hl25 : lv_has ls 8 [(0, .ref this), (1, va_rf v1), (3, .int v3), (4, va_rf v4), (5, .null), (6, .int v6)] := hl
        exact r_vret S hr hlk hG hS h hk.1 hk.2 d_C_cutOut_114
      · replace h := h.2 a24 e9
        subst e9
        have hl26 : lv_has ls 8 [(0, .ref this), (1, va_rf v1), (3, .int v3), (4, va_rf v4), (5, .ref a24), (6, .int v6)] := hl
        refine r_new (k := 2) S hZ hG hS (by decide) rfl (hts _ tw_597) (hts _ tw_598) (hts _ tw_24) h.1 h.2.1 d_C_cutOut_35 (fun a27 g28 H f9 e9 hG hS => ?_)
        have hk := And.intro h.1 h.2.1
        replace h := h.2.2 a27 f9 g28 e9
        refine lv_dup hx hb d_C_cutOut_38 rfl ?_
        refine q_aload_n hx hb d_C_cutOut_39 rfl (lv_at hl26 1 rfl) ?_
        refine q_aload hx hb d_C_cutOut_40 (lv_at hl26 3 rfl) ?_
        obtain ⟨c29, c30, k1, k2, h⟩ := h
        refine q_callV (run_I (As := [va_rf v1, va_rf v4]) (rest := [.ref a27]) S hZ hG hS (s_K_init h) tw_601 tw_599 tw_600 tw_24 rfl nk_K_init ⟨Nat.le_of_ble_eq_true rfl, Nat.le_of_ble_eq_true rfl⟩ rfl hl26.1 rfl (Nat.le_of_ble_eq_true rfl) d_C_cutOut_42 ⟨k1, k2⟩) hS (fun g31 H locs h63 hG hS => ?_)
        have hk := And.intro k1 k2
        replace h := h63
        refine q_astore (o := (some a27)) (lv' := [(7, .ref a27), (0, .ref this), (1, va_rf v1), (3, .int v3), (4, va_rf v4), (5, .ref a24), (6, .int v6)]) hx hb d_C_cutOut_45 hl26 (by decide) (.n (.k 0 rfl (by decide) (by decide) (.k 1 rfl (by decide) (by decide) (.k 2 rfl (by decide) (by decide) (.k 3 rfl (by decide) (by decide) (.k 4 rfl (by decide) (by decide) (.c 5 rfl (by decide) rfl .e))))))) (fun ls32 hl32 => ?_)
        refine lv_aload hx hb d_C_cutOut_47 (lv_at hl32 5 rfl) ?_
        refine r_getR (f := 19) S hZ hG rfl h.1 (hts _ tw_110) (fun _ h9 => h9) d_C_cutOut_49 (fun o33 e9 => ?_)
        replace h := h.2 o33 e9
        refine q_ifnonnull (tgt := 77) hx hb d_C_cutOut_52 (by decide) (fun a34 e9 => ?_) (fun e9 => ?_)
        · replace h := h.2 a34 e9
          subst e9
          exact s_C_cutOut_77 S hZ hr hlk ih _ _ _ _ _ _ _ _ _ _ _ _ _ hk h hG hS (lv_sub hl32 [1, 2, 3, 4, 5, 6, 0] rfl)
        · replace h := h.1 e9
          subst e9
          refine lv_aload hx hb d_C_cutOut_55 (lv_at hl32 5 rfl) ?_
          refine lv_aload_n hx hb d_C_cutOut_57 rfl (lv_at hl32 1 rfl) ?_
          refine r_getR (f := 22) S hZ hG rfl h.1 (hts _ tw_153) (fun _ h9 => h9) d_C_cutOut_58 (fun o35 e9 => ?_)
          replace h := h.2 o35 e9
          obtain ⟨a36, e9, h⟩ := h
          subst e9
          obtain ⟨h9, h⟩ := h
          obtain ⟨c37, c38, k1, k2, h⟩ := h
          obtain ⟨n9, h9⟩ := isK1 h9
          refine q_callI (run_V (As := []) (rest := [.ref a24]) S hZ hG hS (s_AL_size h) tw_99 tw_247 tw_97 tw_98 tw_4 nk_AL_size h9 (by decide) rfl ⟨Nat.le_of_ble_eq_true rfl, Nat.le_of_ble_eq_true rfl⟩ rfl hl32.1 rfl (Nat.le_of_ble_eq_true rfl) d_C_cutOut_61 ⟨k1, k2⟩) hS (fun x40 g39 H locs h62 hG hS => ?_)
          have hk := And.intro k1 k2
          replace h := h62
          refine r_putI (f := 20) S hZ hG hS rfl h.1 (hts _ tw_112) (fun _ h9 => h9) (Or.inl rfl) d_C_cutOut_64 (fun g41 H locs e9 hG hS => ?_)
          replace h := h.2 g41 e9
          refine lv_aload_n hx hb d_C_cutOut_67 rfl (lv_at hl32 1 rfl) ?_
          refine lv_dup hx hb d_C_cutOut_68 rfl ?_
          refine r_getI (f := 28) S hZ hG rfl h.1 (hts _ tw_159) (fun _ h9 => h9) d_C_cutOut_69 (fun x42 e9 => ?_)
          replace h := h.2 x42 e9
          refine lv_iconst (v := (1 : Int32)) hx hb d_C_cutOut_72 (by decide) ?_
          refine lv_isub hx hb d_C_cutOut_73 ?_
          refine r_putI (f := 28) S hZ hG hS rfl h.1 (hts _ tw_159) (fun _ h9 => h9) (Or.inl rfl) d_C_cutOut_74 (fun g43 H locs e9 hG hS => ?_)
          replace h := h.2 g43 e9
          exact s_C_cutOut_77 S hZ hr hlk ih _ _ _ _ _ _ _ _ _ _ _ _ _ hk h hG hS (lv_sub hl32 [1, 2, 3, 4, 5, 6, 0] rfl)
def w_C_cutOut (z mi mc ms : Nat) (post : Sg → Prop) (g : Sg) (this : Nat) (p0 : Option Nat) (p1 : Int32) (p2 : Int32) : Prop := (hasR g this 25 ∧ ∀ o11 : Option Nat, o11 = fR g 25 this → ∃ a12, o11 = some a12 ∧ (∃ n13 : Nat, hT g a12 = some (100, n13) ∧ 0 + 1 ≤ mc ∧ 0 + n13 ≤ ms ∧ ∀ a14 : Nat, hT g a14 = none → ∀ g15 : Sg, g15 = cI (nO g a14 100 n13) a14 (aI g a12) → ((∃ n16 : Nat, hT g15 a14 = some (100, n16)) ∧ (isK g15 this [4] ∧ ∃ c18 c19 : Nat, (0 + 1) + c18 ≤ mc ∧ (0 + n13) + c19 ≤ ms ∧ w_C_seenNode z mi c18 c19 (fun (o21 : Option Nat) (g20 : Sg) => (∃ n64 : Nat, w_C_cutOut_24 z mi mc ms post n64 ((0 + 1) + c18) ((0 + n13) + c19) g20 this p0 p2 (some a14) o21 (0 : Int32))) g15 this (p1 + (1 : Int32))))))
set_option maxHeartbeats 4000000 in
set_option maxRecDepth 100000 in
theorem s_C_cutOut {l : Launch} {D : va_G} {cA : Nat → ClassId} {sz z mi mc ms : Nat} {g : Sg} {post : Sg → Prop} {this : Nat} {p0 : Option Nat} {p1 : Int32} {p2 : Int32} (h : w_C_cutOut z mi mc ms post g this p0 p1 p2) : Met l y_C_cutOut (Cond.code y_C_cutOut b_C_cutOut 8 none :: TBL) ({ frames := 8, cells := mc, slots := ms, locals := 212 } : Room) (Pg D cA sz z mi [.ref this, va_rf p0, .int p1, .int p2] g) (Qg D cA sz (pV post)) mc ms (oA sz) := by
  refine m_code (lv := [(0, .ref this), (1, va_rf p0), (2, .int p1), (3, .int p2)]) (by decide +kernel) (by simp [lg_sl, rf_cat, cat_i, cat_r, cat_l]) (by simp [lv_args, rf_cat, cat_i, cat_r, cat_l]) ?_
  intro p e s m below meth c ls S hr hlk hnm hZ hG hS hl
  obtain ⟨hx, hb, hml, hown, hts⟩ := id S
  have hk : 0 ≤ mc ∧ 0 ≤ ms := ⟨Nat.zero_le _, Nat.zero_le _⟩
  refine lv_aload_n hx hb d_C_cutOut_0 rfl (lv_at hl 0 rfl) ?_
  refine r_getR (f := 25) S hZ hG rfl h.1 (hts _ tw_156) (fun _ h9 => h9) d_C_cutOut_1 (fun o11 e9 => ?_)
  replace h := h.2 o11 e9
  obtain ⟨a12, e9, h⟩ := h
  subst e9
  obtain ⟨n13, h9, h⟩ := h
  refine r_clone S hl.1 hZ (hZ.2.2.2.2.2.2.2.1 ("[I", "java/lang/Cloneable") (by decide)) hG hS tw_459 tw_460 tw_461 tw_462 tw_463 h9 (Nat.le_of_ble_eq_true rfl) (Nat.le_of_ble_eq_true rfl) h.1 h.2.1 d_C_cutOut_4 (fun a14 g15 H f9 e9 hG hS => ?_)
  have hk := And.intro h.1 h.2.1
  replace h := h.2.2 a14 f9 g15 e9
  obtain ⟨⟨n16, h9⟩, h⟩ := h
  refine r_cast100 S hZ hG (hts _ tw_465) h9 d_C_cutOut_7 ?_
  refine q_astore (o := (some a14)) (lv' := [(4, .ref a14), (0, .ref this), (1, va_rf p0), (2, .int p1), (3, .int p2)]) hx hb d_C_cutOut_10 hl (by decide) (.n (.k 0 rfl (by decide) (by decide) (.k 1 rfl (by decide) (by decide) (.k 2 rfl (by decide) (by decide) (.c 3 rfl (by decide) rfl .e))))) (fun ls17 hl17 => ?_)
  refine lv_aload_n hx hb d_C_cutOut_12 rfl (lv_at hl17 1 rfl) ?_
  refine lv_iload_n hx hb d_C_cutOut_13 rfl (lv_at hl17 3 rfl) ?_
  refine lv_iconst (v := (1 : Int32)) hx hb d_C_cutOut_14 (by decide) ?_
  refine lv_iadd hx hb d_C_cutOut_15 ?_
  obtain ⟨h9, h⟩ := h
  obtain ⟨c18, c19, k1, k2, h⟩ := h
  obtain ⟨n9, h9⟩ := isK1 h9
  refine q_callR (run_V (As := [.int (p1 + (1 : Int32))]) (rest := []) S hZ hG hS (s_C_seenNode h) tw_469 tw_466 tw_468 tp_14 tw_1 nk_C_seenNode h9 (by decide) rfl ⟨Nat.le_of_ble_eq_true rfl, Nat.le_of_ble_eq_true rfl⟩ rfl hl17.1 rfl (by decide) d_C_cutOut_16 ⟨k1, k2⟩) hS (fun o21 g20 H locs h65 hG hS => ?_)
  have hk := And.intro k1 k2
  replace h := h65
  refine q_astore (o := o21) (lv' := [(5, va_rf o21), (4, .ref a14), (0, .ref this), (1, va_rf p0), (2, .int p1), (3, .int p2)]) hx hb d_C_cutOut_19 hl17 (by decide) (.n (.c 0 rfl (by decide) rfl (.k 1 rfl (by decide) (by decide) (.k 2 rfl (by decide) (by decide) (.k 3 rfl (by decide) (by decide) (.k 4 rfl (by decide) (by decide) .e)))))) (fun ls22 hl22 => ?_)
  refine lv_iconst (v := (0 : Int32)) hx hb d_C_cutOut_21 (by decide) ?_
  refine q_istore (lv' := [(6, .int ((0 : Int32))), (5, va_rf o21), (4, .ref a14), (0, .ref this), (1, va_rf p0), (2, .int p1), (3, .int p2)]) hx hb d_C_cutOut_22 hl22 (by decide) (.n (.c 0 rfl (by decide) (rf_cat _) (.k 1 rfl (by decide) (by decide) (.k 2 rfl (by decide) (by decide) (.k 3 rfl (by decide) (by decide) (.k 4 rfl (by decide) (by decide) (.k 5 rfl (by decide) (by decide) .e))))))) (fun ls23 hl23 => ?_)
  obtain ⟨n64, h⟩ := h
  exact s_C_cutOut_24 S hZ hr hlk n64 _ _ _ _ _ _ _ _ _ _ _ _ hk h hG hS (lv_sub hl23 [3, 4, 6, 2, 1, 0] rfl)
def w_C_delete (z mi mc ms : Nat) (post : Int32 → Sg → Prop) (px : Nat → Sg → Prop) (g : Sg) (this : Nat) (p0 : Int32) (p1 : Int32) (p2 : Int32) : Prop := (∃ c11 c12 : Nat, 0 + c11 ≤ mc ∧ 0 + c12 ≤ ms ∧ w_C_canBeEdit z mi c11 c12 (fun (x14 : Int32) (g13 : Sg) => (¬ x14 = 0 → (isK g13 this [4] ∧ ∃ c15 c16 : Nat, (0 + c11) + c15 ≤ mc ∧ (0 + c12) + c16 ≤ ms ∧ w_C_takeList z mi c15 c16 (fun (x18 : Int32) (g17 : Sg) => (¬ x18 = 0 → (isK g17 this [4] ∧ ∃ c19 c20 : Nat, ((0 + c11) + c15) + c19 ≤ mc ∧ ((0 + c12) + c16) + c20 ≤ ms ∧ w_C_countSeen z mi c19 c20 (fun (x22 : Int32) (g21 : Sg) => (p1 ≤ (x22 - p2) → (isK g21 this [4] ∧ ∃ c23 c24 : Nat, (((0 + c11) + c15) + c19) + c23 ≤ mc ∧ (((0 + c12) + c16) + c20) + c24 ≤ ms ∧ w_C_hasRoom z mi c23 c24 (fun (x26 : Int32) (g25 : Sg) => (¬ x26 = 0 → (isK g25 this [4] ∧ ∃ c27 c28 : Nat, ((((0 + c11) + c15) + c19) + c23) + c27 ≤ mc ∧ ((((0 + c12) + c16) + c20) + c24) + c28 ≤ ms ∧ w_C_authorNamed z mi c27 c28 (fun (o30 : Option Nat) (g29 : Sg) => (isK g29 this [4] ∧ ∃ c31 c32 : Nat, (((((0 + c11) + c15) + c19) + c23) + c27) + c31 ≤ mc ∧ (((((0 + c12) + c16) + c20) + c24) + c28) + c32 ≤ ms ∧ w_C_cutOut z mi c31 c32 (fun (g33 : Sg) => (hasI g33 this 28 ∧ ∀ x34 : Int32, x34 = fI g33 28 this → post x34 g33)) g29 this o30 p1 p2)) g25 this p0)) ∧ (x26 = 0 → ((((0 + c11) + c15) + c19) + c23) + 1 ≤ mc ∧ ((((0 + c12) + c16) + c20) + c24) + 6 ≤ ms ∧ px 2 g25)) g21 this p0 p2)) ∧ (¬ p1 ≤ (x22 - p2) → (((0 + c11) + c15) + c19) + 1 ≤ mc ∧ (((0 + c12) + c16) + c20) + 6 ≤ ms ∧ px 4 g21)) g17 this)) ∧ (x18 = 0 → ((0 + c11) + c15) + 1 ≤ mc ∧ ((0 + c12) + c16) + 6 ≤ ms ∧ px 1 g17)) g13 this p0)) ∧ (x14 = 0 → (0 + c11) + 1 ≤ mc ∧ (0 + c12) + 6 ≤ ms ∧ px 3 g13)) g p0 p1 p2)
set_option maxHeartbeats 4000000 in
set_option maxRecDepth 100000 in
theorem s_C_delete {l : Launch} {D : va_G} {cA : Nat → ClassId} {sz z mi mc ms : Nat} {g : Sg} {post : Int32 → Sg → Prop} {px : Nat → Sg → Prop} {this : Nat} {p0 : Int32} {p1 : Int32} {p2 : Int32} (hst : l.stackTraces = false) (h : w_C_delete z mi mc ms post px g this p0 p1 p2) : vx_Met l y_C_delete (Cond.code y_C_delete b_C_delete 4 (some FieldType.int) :: TBL) ({ frames := 9, cells := mc, slots := ms, locals := 239 } : Room) (Pg D cA sz z mi [.ref this, .int p0, .int p1, .int p2] g) (Qg D cA sz (pI post)) (Xg D cA sz px) mc ms (oA sz) := by
  refine m_codeX (lv := [(0, .ref this), (1, .int p0), (2, .int p1), (3, .int p2)]) (by decide +kernel) (Nat.le_of_ble_eq_true rfl) rfl ?_
  intro p e s m below meth c ls hxt S hr hlk hnm hZ hG hS hl
  obtain ⟨hx, hb, hml, hown, hts⟩ := id S
  have hk : 0 ≤ mc ∧ 0 ≤ ms := ⟨Nat.zero_le _, Nat.zero_le _⟩
  refine lv_iload_n hx hb d_C_delete_0 rfl (lv_at hl 1 rfl) ?_
  refine lv_iload_n hx hb d_C_delete_1 rfl (lv_at hl 2 rfl) ?_
  refine lv_iload_n hx hb d_C_delete_2 rfl (lv_at hl 3 rfl) ?_
  obtain ⟨c11, c12, k1, k2, h⟩ := h
  refine q_callI (run_S (As := [.int p0, .int p1, .int p2]) (rest := []) S hZ hG hS (s_C_canBeEdit h) tw_405 tw_403 tw_404 tw_1 nk_C_canBeEdit ⟨Nat.le_of_ble_eq_true rfl, Nat.le_of_ble_eq_true rfl⟩ rfl hl.1 rfl (by decide) d_C_delete_3 ⟨k1, k2⟩) hS (fun x14 g13 H locs h40 hG hS => ?_)
  have hk := And.intro k1 k2
  replace h := h40
  refine lv_if_ne (tgt := 17) hx hb d_C_delete_6 (by decide) (fun c9 => ?_) (fun c9 => ?_)
  · replace h := h.1 c9
    refine lv_aload_n hx hb d_C_delete_17 rfl (lv_at hl 0 rfl) ?_
    refine lv_iload_n hx hb d_C_delete_18 rfl (lv_at hl 1 rfl) ?_
    obtain ⟨h9, h⟩ := h
    obtain ⟨c15, c16, k1, k2, h⟩ := h
    obtain ⟨n9, h9⟩ := isK1 h9
    refine q_callI (run_V (As := [.int p0]) (rest := []) S hZ hG hS (s_C_takeList h) tw_431 tw_428 tw_430 tp_10 tw_1 nk_C_takeList h9 (by decide) rfl ⟨Nat.le_of_ble_eq_true rfl, Nat.le_of_ble_eq_true rfl⟩ rfl hl.1 rfl (by decide) d_C_delete_19 ⟨k1, k2⟩) hS (fun x18 g17 H locs h39 hG hS => ?_)
    have hk := And.intro k1 k2
    replace h := h39
    refine lv_if_ne (tgt := 33) hx hb d_C_delete_22 (by decide) (fun c9 => ?_) (fun c9 => ?_)
    · replace h := h.1 c9
      refine lv_iload_n hx hb d_C_delete_33 rfl (lv_at hl 2 rfl) ?_
      refine lv_aload_n hx hb d_C_delete_34 rfl (lv_at hl 0 rfl) ?_
      obtain ⟨h9, h⟩ := h
      obtain ⟨c19, c20, k1, k2, h⟩ := h
      obtain ⟨n9, h9⟩ := isK1 h9
      refine q_callI (run_V (As := []) (rest := [.int p1]) S hZ hG hS (s_C_countSeen h) tw_378 tw_375 tw_377 tp_8 tw_1 nk_C_countSeen h9 (by decide) rfl ⟨Nat.le_of_ble_eq_true rfl, Nat.le_of_ble_eq_true rfl⟩ rfl hl.1 rfl (Nat.le_of_ble_eq_true rfl) d_C_delete_35 ⟨k1, k2⟩) hS (fun x22 g21 H locs h38 hG hS => ?_)
      have hk := And.intro k1 k2
      replace h := h38
      refine lv_iload_n hx hb d_C_delete_38 rfl (lv_at hl 3 rfl) ?_
      refine lv_isub hx hb d_C_delete_39 ?_
      refine lv_icmp_le (tgt := 51) hx hb d_C_delete_40 (by decide) (fun c9 => ?_) (fun c9 => ?_)
      · replace h := h.1 c9
        refine lv_aload_n hx hb d_C_delete_51 rfl (lv_at hl 0 rfl) ?_
        refine lv_iload_n hx hb d_C_delete_52 rfl (lv_at hl 1 rfl) ?_
        refine lv_iload_n hx hb d_C_delete_53 rfl (lv_at hl 3 rfl) ?_
        obtain ⟨h9, h⟩ := h
        obtain ⟨c23, c24, k1, k2, h⟩ := h
        obtain ⟨n9, h9⟩ := isK1 h9
        refine q_callI (run_V (As := [.int p0, .int p2]) (rest := []) S hZ hG hS (s_C_hasRoom h) tw_450 tw_447 tw_449 tp_11 tw_1 nk_C_hasRoom h9 (by decide) rfl ⟨Nat.le_of_ble_eq_true rfl, Nat.le_of_ble_eq_true rfl⟩ rfl hl.1 rfl (by decide) d_C_delete_54 ⟨k1, k2⟩) hS (fun x26 g25 H locs h37 hG hS => ?_)
        have hk := And.intro k1 k2
        replace h := h37
        refine lv_if_ne (tgt := 68) hx hb d_C_delete_57 (by decide) (fun c9 => ?_) (fun c9 => ?_)
        · replace h := h.1 c9
          refine lv_aload_n hx hb d_C_delete_68 rfl (lv_at hl 0 rfl) ?_
          refine lv_aload_n hx hb d_C_delete_69 rfl (lv_at hl 0 rfl) ?_
          refine lv_iload_n hx hb d_C_delete_70 rfl (lv_at hl 1 rfl) ?_
          obtain ⟨h9, h⟩ := h
          obtain ⟨c27, c28, k1, k2, h⟩ := h
          obtain ⟨n9, h9⟩ := isK1 h9
          refine q_callR (run_V (As := [.int p0]) (rest := [.ref this]) S hZ hG hS (s_C_authorNamed h) tw_454 tw_451 tw_453 tp_12 tw_1 nk_C_authorNamed h9 (by decide) rfl ⟨Nat.le_of_ble_eq_true rfl, Nat.le_of_ble_eq_true rfl⟩ rfl hl.1 rfl (Nat.le_of_ble_eq_true rfl) d_C_delete_71 ⟨k1, k2⟩) hS (fun o30 g29 H locs h36 hG hS => ?_)
          have hk := And.intro k1 k2
          replace h := h36
          refine lv_iload_n hx hb d_C_delete_74 rfl (lv_at hl 2 rfl) ?_
          refine lv_iload_n hx hb d_C_delete_75 rfl (lv_at hl 3 rfl) ?_
          obtain ⟨h9, h⟩ := h
          obtain ⟨c31, c32, k1, k2, h⟩ := h
          obtain ⟨n9, h9⟩ := isK1 h9
          refine q_callV (run_V (As := [va_rf o30, .int p1, .int p2]) (rest := []) S hZ hG hS (s_C_cutOut h) tw_596 tw_593 tw_595 tp_28 tw_1 nk_C_cutOut h9 (by decide) rfl ⟨Nat.le_of_ble_eq_true rfl, Nat.le_of_ble_eq_true rfl⟩ rfl hl.1 rfl (by decide) d_C_delete_76 ⟨k1, k2⟩) hS (fun g33 H locs h35 hG hS => ?_)
          have hk := And.intro k1 k2
          replace h := h35
          refine lv_aload_n hx hb d_C_delete_79 rfl (lv_at hl 0 rfl) ?_
          refine r_getI (f := 28) S hZ hG rfl h.1 (hts _ tw_159) (fun _ h9 => h9) d_C_delete_80 (fun x34 e9 => ?_)
          replace h := h.2 x34 e9
          exact vx_ret (r_iret (v := x34) S hr hlk hG hS h hk.1 hk.2 d_C_delete_83)
        · replace h := h.2 c9
          exact r_throw (i := 2) S hst hZ hG hS (by decide) tw_333 tw_17 xa_C_68_70 xb_C_68_70 xo_C_68_70 hl.1 d_C_delete_60 d_C_delete_63 d_C_delete_64 d_C_delete_67 (fun x hx => (hxt x hx).elim) (Nat.le_of_ble_eq_true rfl) (Nat.le_of_ble_eq_true rfl) rfl rfl hlk h.2.2 h.1 h.2.1
      · replace h := h.2 c9
        exact r_throw (i := 4) S hst hZ hG hS (by decide) tw_432 tw_21 xa_C_108_110 xb_C_108_110 xo_C_108_110 hl.1 d_C_delete_43 d_C_delete_46 d_C_delete_47 d_C_delete_50 (fun x hx => (hxt x hx).elim) (Nat.le_of_ble_eq_true rfl) (Nat.le_of_ble_eq_true rfl) rfl rfl hlk h.2.2 h.1 h.2.1
    · replace h := h.2 c9
      exact r_throw (i := 1) S hst hZ hG hS (by decide) tw_318 tw_16 xa_C_65_67 xb_C_65_67 xo_C_65_67 hl.1 d_C_delete_25 d_C_delete_28 d_C_delete_29 d_C_delete_32 (fun x hx => (hxt x hx).elim) (Nat.le_of_ble_eq_true rfl) (Nat.le_of_ble_eq_true rfl) rfl rfl hlk h.2.2 h.1 h.2.1
  · replace h := h.2 c9
    exact r_throw (i := 3) S hst hZ hG hS (by decide) tw_413 tw_20 xa_C_101_103 xb_C_101_103 xo_C_101_103 hl.1 d_C_delete_9 d_C_delete_12 d_C_delete_13 d_C_delete_16 (fun x hx => (hxt x hx).elim) (Nat.le_of_ble_eq_true rfl) (Nat.le_of_ble_eq_true rfl) rfl rfl hlk h.2.2 h.1 h.2.1
def w_L_delete (z mi mc ms : Nat) (post : Int32 → Sg → Prop) (g : Sg) (p0 : Option Nat) (p1 : Int32) (p2 : Int32) (p3 : Int32) (p4 : Option Nat) : Prop := ∃ a11, p0 = some a11 ∧ (isK g a11 [4] ∧ ∃ c13 c14 : Nat, 0 + c13 ≤ mc ∧ 0 + c14 ≤ ms ∧ w_C_delete z mi c13 c14 (fun (x16 : Int32) (g15 : Sg) => ∃ a17, p4 = some a17 ∧ (∃ j19 : Nat, inA g15 a17 103 (0 : Int32) j19 ∧ ∀ g20 : Sg, g20 = sL g15 a17 j19 (x16.toInt64) → post (0 : Int32) g20)) (fun (i21 : Nat) (g22 : Sg) => (i21 = 1 ∧ post (2 : Int32) g22) ∨ (i21 = 2 ∧ post (4 : Int32) g22) ∨ (i21 = 3 ∧ post (1 : Int32) g22) ∨ (i21 = 4 ∧ post (3 : Int32) g22)) g a11 p1 p2 p3)
set_option maxHeartbeats 4000000 in
set_option maxRecDepth 100000 in
theorem s_L_delete {l : Launch} {D : va_G} {cA : Nat → ClassId} {sz z mi mc ms : Nat} {g : Sg} {post : Int32 → Sg → Prop} {p0 : Option Nat} {p1 : Int32} {p2 : Int32} {p3 : Int32} {p4 : Option Nat} (hst : l.stackTraces = false) (h : w_L_delete z mi mc ms post g p0 p1 p2 p3 p4) : Met l y_L_delete (Cond.codeWith y_L_delete b_L_delete 6 (some FieldType.int) [(0, 12, 15, 27), (0, 12, 19, 15), (0, 12, 23, 29), (0, 12, 27, 17)] :: TBL) ({ frames := 10, cells := mc, slots := ms, locals := 262 } : Room) (Pg D cA sz z mi [va_rf p0, .int p1, .int p2, .int p3, va_rf p4] g) (Qg D cA sz (pI post)) mc ms (oA sz) := by
  refine m_codeW (lv := [(0, va_rf p0), (1, .int p1), (2, .int p2), (3, .int p3), (4, va_rf p4)]) (by decide +kernel) (by simp [lg_sl, rf_cat, cat_i, cat_r, cat_l]) (by simp [lv_args, rf_cat, cat_i, cat_r, cat_l]) ?_
  intro p e s m below meth c ls htb S hr hlk hnm hZ hG hS hl
  obtain ⟨hx, hb, hml, hown, hts⟩ := id S
  have hk : 0 ≤ mc ∧ 0 ≤ ms := ⟨Nat.zero_le _, Nat.zero_le _⟩
  refine q_aload hx hb d_L_delete_0 (lv_at hl 4 rfl) ?_
  refine lv_iconst (v := (0 : Int32)) hx hb d_L_delete_2 (by decide) ?_
  refine q_aload_n hx hb d_L_delete_3 rfl (lv_at hl 0 rfl) ?_
  refine lv_iload_n hx hb d_L_delete_4 rfl (lv_at hl 1 rfl) ?_
  refine lv_iload_n hx hb d_L_delete_5 rfl (lv_at hl 2 rfl) ?_
  refine lv_iload_n hx hb d_L_delete_6 rfl (lv_at hl 3 rfl) ?_
  obtain ⟨a11, e9, h⟩ := h
  subst e9
  have hl12 : lv_has ls 6 [(0, .ref a11), (1, .int p1), (2, .int p2), (3, .int p3), (4, va_rf p4)] := hl
  obtain ⟨h9, h⟩ := h
  obtain ⟨c13, c14, k1, k2, h⟩ := h
  obtain ⟨n9, h9⟩ := isK1 h9
  refine x_callI (xrun_V (As := [.int p1, .int p2, .int p3]) (rest := [.int ((0 : Int32)), va_rf p4]) S hZ hG hS (s_C_delete hst h) tw_592 tw_589 tw_590 tw_591 tw_1 nk_C_delete h9 (by decide) rfl ⟨Nat.le_of_ble_eq_true rfl, Nat.le_of_ble_eq_true rfl⟩ rfl hl.1 rfl (by simp [rf_cat, cat_i, cat_r, cat_l]) d_L_delete_7 ⟨k1, k2⟩) hS (fun i9 ce q9 g22 H locs hi h32 hG hS hq1 hq2 hq3 => ?_) (fun x16 g15 H locs h31 hG hS => ?_)
  · have hk := And.intro k1 k2
    replace h := h32
    rcases h with ⟨rfl, h⟩ | ⟨rfl, h⟩ | ⟨rfl, h⟩ | ⟨rfl, h⟩
    · refine r_catch (i := 1) S hZ (by decide) [⟨0, 12, 15, 27⟩] ⟨0, 12, 19, 15⟩ [⟨0, 12, 23, 29⟩, ⟨0, 12, 27, 17⟩] htb (List.forall_mem_cons.mpr ⟨⟨by decide, 3, by decide, by decide, tw_397⟩, (fun y hy => nomatch hy)⟩) (by decide) (by decide) tw_233 hq1 hq2 hq3 ?_
      refine q_astore (o := (some q9)) (lv' := [(0, .ref a11), (1, .int p1), (2, .int p2), (3, .int p3), (4, va_rf p4)]) hx hb d_L_delete_19 hl12 (by decide) (.k 0 rfl (by decide) (by decide) (.k 1 rfl (by decide) (by decide) (.k 2 rfl (by decide) (by decide) (.k 3 rfl (by decide) (by decide) (.c 4 rfl (by decide) (rf_cat _) .e))))) (fun ls24 hl24 => ?_)
      refine lv_iconst (v := (2 : Int32)) hx hb d_L_delete_21 (by decide) ?_
      exact r_iret (v := (2 : Int32)) S hr hlk hG hS h hk.1 hk.2 d_L_delete_22
    · refine r_catch (i := 2) S hZ (by decide) [⟨0, 12, 15, 27⟩, ⟨0, 12, 19, 15⟩, ⟨0, 12, 23, 29⟩] ⟨0, 12, 27, 17⟩ [] htb (List.forall_mem_cons.mpr ⟨⟨by decide, 3, by decide, by decide, tw_397⟩, (List.forall_mem_cons.mpr ⟨⟨by decide, 1, by decide, by decide, tw_233⟩, (List.forall_mem_cons.mpr ⟨⟨by decide, 4, by decide, by decide, tw_398⟩, (fun y hy => nomatch hy)⟩)⟩)⟩) (by decide) (by decide) tw_234 hq1 hq2 hq3 ?_
      refine q_astore (o := (some q9)) (lv' := [(0, .ref a11), (1, .int p1), (2, .int p2), (3, .int p3), (4, va_rf p4)]) hx hb d_L_delete_27 hl12 (by decide) (.k 0 rfl (by decide) (by decide) (.k 1 rfl (by decide) (by decide) (.k 2 rfl (by decide) (by decide) (.k 3 rfl (by decide) (by decide) (.c 4 rfl (by decide) (rf_cat _) .e))))) (fun ls26 hl26 => ?_)
      refine lv_iconst (v := (4 : Int32)) hx hb d_L_delete_29 (by decide) ?_
      exact r_iret (v := (4 : Int32)) S hr hlk hG hS h hk.1 hk.2 d_L_delete_30
    · refine r_catch (i := 3) S hZ (by decide) [] ⟨0, 12, 15, 27⟩ [⟨0, 12, 19, 15⟩, ⟨0, 12, 23, 29⟩, ⟨0, 12, 27, 17⟩] htb (fun y hy => nomatch hy) (by decide) (by decide) tw_397 hq1 hq2 hq3 ?_
      refine q_astore (o := (some q9)) (lv' := [(0, .ref a11), (1, .int p1), (2, .int p2), (3, .int p3), (4, va_rf p4)]) hx hb d_L_delete_15 hl12 (by decide) (.k 0 rfl (by decide) (by decide) (.k 1 rfl (by decide) (by decide) (.k 2 rfl (by decide) (by decide) (.k 3 rfl (by decide) (by decide) (.c 4 rfl (by decide) (rf_cat _) .e))))) (fun ls28 hl28 => ?_)
      refine lv_iconst (v := (1 : Int32)) hx hb d_L_delete_17 (by decide) ?_
      exact r_iret (v := (1 : Int32)) S hr hlk hG hS h hk.1 hk.2 d_L_delete_18
    · refine r_catch (i := 4) S hZ (by decide) [⟨0, 12, 15, 27⟩, ⟨0, 12, 19, 15⟩] ⟨0, 12, 23, 29⟩ [⟨0, 12, 27, 17⟩] htb (List.forall_mem_cons.mpr ⟨⟨by decide, 3, by decide, by decide, tw_397⟩, (List.forall_mem_cons.mpr ⟨⟨by decide, 1, by decide, by decide, tw_233⟩, (fun y hy => nomatch hy)⟩)⟩) (by decide) (by decide) tw_398 hq1 hq2 hq3 ?_
      refine q_astore (o := (some q9)) (lv' := [(0, .ref a11), (1, .int p1), (2, .int p2), (3, .int p3), (4, va_rf p4)]) hx hb d_L_delete_23 hl12 (by decide) (.k 0 rfl (by decide) (by decide) (.k 1 rfl (by decide) (by decide) (.k 2 rfl (by decide) (by decide) (.k 3 rfl (by decide) (by decide) (.c 4 rfl (by decide) (rf_cat _) .e))))) (fun ls30 hl30 => ?_)
      refine lv_iconst (v := (3 : Int32)) hx hb d_L_delete_25 (by decide) ?_
      exact r_iret (v := (3 : Int32)) S hr hlk hG hS h hk.1 hk.2 d_L_delete_26
  · have hk := And.intro k1 k2
    replace h := h31
    refine lv_i2l hx hb d_L_delete_10 rfl ?_
    obtain ⟨a17, e9, h⟩ := h
    subst e9
    have hl18 : lv_has ls 6 [(0, .ref a11), (1, .int p1), (2, .int p2), (3, .int p3), (4, .ref a17)] := hl12
    obtain ⟨j19, h9, h⟩ := h
    refine r_last S hZ hG hS h9 d_L_delete_11 (fun g20 H locs e9 hG hS => ?_)
    replace h := h g20 e9
    refine lv_goto (tgt := 31) hx hb d_L_delete_12 (by decide) ?_
    refine lv_iconst (v := (0 : Int32)) hx hb d_L_delete_31 (by decide) ?_
    exact r_iret (v := (0 : Int32)) S hr hlk hG hS h hk.1 hk.2 d_L_delete_32
def w_C_lengthAfter (z mi mc ms : Nat) (post : Int32 → Sg → Prop) (g : Sg) (this : Nat) (p0 : Int32) : Prop := (¬ p0 = 0 → (hasR g this 22 ∧ ∀ o11 : Option Nat, o11 = fR g 22 this → ∃ a12, o11 = some a12 ∧ (isK g a12 [0] ∧ ∃ c13 c14 : Nat, 0 + c13 ≤ mc ∧ 0 + c14 ≤ ms ∧ w_AL_get z mi c13 c14 (fun (o16 : Option Nat) (g15 : Sg) => ∃ a17, o16 = some a17 ∧ (isK g15 a17 [2, 3] ∧ (hasI g15 a17 11 ∧ ∀ x18 : Int32, x18 = fI g15 11 a17 → post x18 g15))) g a12 (p0 - (1 : Int32))))) ∧ (p0 = 0 → post (0 : Int32) g)
set_option maxHeartbeats 4000000 in
set_option maxRecDepth 100000 in
theorem s_C_lengthAfter {l : Launch} {D : va_G} {cA : Nat → ClassId} {sz z mi mc ms : Nat} {g : Sg} {post : Int32 → Sg → Prop} {this : Nat} {p0 : Int32} (h : w_C_lengthAfter z mi mc ms post g this p0) : Met l y_C_lengthAfter (Cond.code y_C_lengthAfter b_C_lengthAfter 2 (some FieldType.int) :: TBL) ({ frames := 4, cells := mc, slots := ms, locals := 124 } : Room) (Pg D cA sz z mi [.ref this, .int p0] g) (Qg D cA sz (pI post)) mc ms (oA sz) := by
  refine m_code (lv := [(0, .ref this), (1, .int p0)]) (by decide +kernel) (Nat.le_of_ble_eq_true rfl) rfl ?_
  intro p e s m below meth c ls S hr hlk hnm hZ hG hS hl
  obtain ⟨hx, hb, hml, hown, hts⟩ := id S
  have hk : 0 ≤ mc ∧ 0 ≤ ms := ⟨Nat.zero_le _, Nat.zero_le _⟩
  refine lv_iload_n hx hb d_C_lengthAfter_0 rfl (lv_at hl 1 rfl) ?_
  refine lv_if_ne (tgt := 8) hx hb d_C_lengthAfter_1 (by decide) (fun c9 => ?_) (fun c9 => ?_)
  · replace h := h.1 c9
    refine lv_aload_n hx hb d_C_lengthAfter_8 rfl (lv_at hl 0 rfl) ?_
    refine r_getR (f := 22) S hZ hG rfl h.1 (hts _ tw_153) (fun _ h9 => h9) d_C_lengthAfter_9 (fun o11 e9 => ?_)
    replace h := h.2 o11 e9
    refine lv_iload_n hx hb d_C_lengthAfter_12 rfl (lv_at hl 1 rfl) ?_
    refine lv_iconst (v := (1 : Int32)) hx hb d_C_lengthAfter_13 (by decide) ?_
    refine lv_isub hx hb d_C_lengthAfter_14 ?_
    obtain ⟨a12, e9, h⟩ := h
    subst e9
    obtain ⟨h9, h⟩ := h
    obtain ⟨c13, c14, k1, k2, h⟩ := h
    obtain ⟨n9, h9⟩ := isK1 h9
    refine q_callR (run_V (As := [.int (p0 - (1 : Int32))]) (rest := []) S hZ hG hS (s_AL_get h) tw_193 tw_248 tw_191 tw_192 tw_4 nk_AL_get h9 (by decide) rfl ⟨Nat.le_of_ble_eq_true rfl, Nat.le_of_ble_eq_true rfl⟩ rfl hl.1 rfl (by decide) d_C_lengthAfter_15 ⟨k1, k2⟩) hS (fun o16 g15 H locs h19 hG hS => ?_)
    have hk := And.intro k1 k2
    replace h := h19
    obtain ⟨a17, e9, h⟩ := h
    subst e9
    obtain ⟨h9, h⟩ := h
    refine r_castE S hZ hG tw_61 h9 d_C_lengthAfter_18 ?_
    refine r_getI (f := 11) S hZ hG rfl h.1 (hts _ tw_124) (fun _ h9 => h9) d_C_lengthAfter_21 (fun x18 e9 => ?_)
    replace h := h.2 x18 e9
    exact r_iret (v := x18) S hr hlk hG hS h hk.1 hk.2 d_C_lengthAfter_24
  · replace h := h.2 c9
    refine lv_iconst (v := (0 : Int32)) hx hb d_C_lengthAfter_4 (by decide) ?_
    refine lv_goto (tgt := 24) hx hb d_C_lengthAfter_5 (by decide) ?_
    exact r_iret (v := (0 : Int32)) S hr hlk hG hS h hk.1 hk.2 d_C_lengthAfter_24
def w_N_isInTextOf (z mi mc ms : Nat) (post : Int32 → Sg → Prop) (g : Sg) (this : Nat) (p0 : Int32) : Prop := (hasI g this 10 ∧ ∀ x11 : Int32, x11 = fI g 10 this → (p0 ≤ x11 → post (0 : Int32) g) ∧ (¬ p0 ≤ x11 → (hasI g this 20 ∧ ∀ x12 : Int32, x12 = fI g 20 this → (x12 < p0 → post (0 : Int32) g) ∧ (¬ x12 < p0 → post (1 : Int32) g))))
set_option maxHeartbeats 4000000 in
set_option maxRecDepth 100000 in
theorem s_N_isInTextOf {l : Launch} {D : va_G} {cA : Nat → ClassId} {sz z mi mc ms : Nat} {g : Sg} {post : Int32 → Sg → Prop} {this : Nat} {p0 : Int32} (h : w_N_isInTextOf z mi mc ms post g this p0) : Met l y_N_isInTextOf (Cond.code y_N_isInTextOf b_N_isInTextOf 2 (some FieldType.boolean) :: TBL) ({ frames := 0, cells := mc, slots := ms, locals := 0 } : Room) (Pg D cA sz z mi [.ref this, .int p0] g) (Qg D cA sz (pI post)) mc ms (oA sz) := by
  refine m_code (lv := [(0, .ref this), (1, .int p0)]) (by decide +kernel) (Nat.le_of_ble_eq_true rfl) rfl ?_
  intro p e s m below meth c ls S hr hlk hnm hZ hG hS hl
  obtain ⟨hx, hb, hml, hown, hts⟩ := id S
  have hk : 0 ≤ mc ∧ 0 ≤ ms := ⟨Nat.zero_le _, Nat.zero_le _⟩
  refine lv_aload_n hx hb d_N_isInTextOf_0 rfl (lv_at hl 0 rfl) ?_
  refine r_getI (f := 10) S hZ hG rfl h.1 (hts _ tw_121) (fun x9 h9 => u_same (hts _ tw_122) x9 h9) d_N_isInTextOf_1 (fun x11 e9 => ?_)
  replace h := h.2 x11 e9
  refine lv_iload_n hx hb d_N_isInTextOf_4 rfl (lv_at hl 1 rfl) ?_
  refine lv_icmp_ge (tgt := 20) hx hb d_N_isInTextOf_5 (by decide) (fun c9 => ?_) (fun c9 => ?_)
  · replace h := h.1 c9
    refine lv_iconst (v := (0 : Int32)) hx hb d_N_isInTextOf_20 (by decide) ?_
    exact r_zret (v := (0 : Int32)) S hr hlk rfl hG hS h hk.1 hk.2 d_N_isInTextOf_21
  · replace h := h.2 c9
    refine lv_aload_n hx hb d_N_isInTextOf_8 rfl (lv_at hl 0 rfl) ?_
    refine r_getI (f := 20) S hZ hG rfl h.1 (hts _ tw_111) (fun _ h9 => h9) d_N_isInTextOf_9 (fun x12 e9 => ?_)
    replace h := h.2 x12 e9
    refine lv_iload_n hx hb d_N_isInTextOf_12 rfl (lv_at hl 1 rfl) ?_
    refine lv_icmp_lt (tgt := 20) hx hb d_N_isInTextOf_13 (by decide) (fun c9 => ?_) (fun c9 => ?_)
    · replace h := h.1 c9
      refine lv_iconst (v := (0 : Int32)) hx hb d_N_isInTextOf_20 (by decide) ?_
      exact r_zret (v := (0 : Int32)) S hr hlk rfl hG hS h hk.1 hk.2 d_N_isInTextOf_21
    · replace h := h.2 c9
      refine lv_iconst (v := (1 : Int32)) hx hb d_N_isInTextOf_16 (by decide) ?_
      refine lv_goto (tgt := 21) hx hb d_N_isInTextOf_17 (by decide) ?_
      exact r_zret (v := (1 : Int32)) S hr hlk rfl hG hS h hk.1 hk.2 d_N_isInTextOf_21
def w_C_textNode_26 (z mi mc ms : Nat) (post : Option Nat → Sg → Prop) : Nat → Nat → Nat → Sg → Int32 → Int32 → Option Nat → Prop
  | 0 => fun _ _ _ _ _ _ => False
  | n + 1 => fun kc ks g v1 v3 v4 => (v4 = none → post none g) ∧ (∀ a20, v4 = some a20 → (isK g a20 [3] ∧ ∃ c23 c24 : Nat, kc + c23 ≤ mc ∧ ks + c24 ≤ ms ∧ w_N_isInTextOf z mi c23 c24 (fun (x26 : Int32) (g25 : Sg) => (x26 = 0 → (hasR g25 a20 18 ∧ ∀ o27 : Option Nat, o27 = fR g25 18 a20 → w_C_textNode_26 z mi mc ms post n (kc + c23) (ks + c24) g25 v1 v3 o27)) ∧ (¬ x26 = 0 → (¬ v3 = 0 → (hasR g25 a20 18 ∧ ∀ o30 : Option Nat, o30 = fR g25 18 a20 → w_C_textNode_26 z mi mc ms post n (kc + c23) (ks + c24) g25 v1 (v3 + (-1 : Int32)) o30)) ∧ (v3 = 0 → post (some a20) g25))) g a20 v1))
set_option maxHeartbeats 4000000 in
set_option maxRecDepth 100000 in
theorem s_C_textNode_26 {p : Program} {l : Launch} {e : Env} {s : State} {m : MethodId} {args : Array Value} {below : List Frame} {meth : Method} {c : Code} {D : va_G} {cA : Nat → ClassId} {sz z mi mc ms : Nat} {post : Option Nat → Sg → Prop} (S : CallFix p m c b_C_textNode 5 s args TBL "WeaveCore") (hZ : Ws D cA sz z mi s) (hr : meth.sig.returnType = (some (FieldType.object "WeaveCore$Node"))) (hlk : meth.locks = false) :
    ∀ n : Nat, ∀ (kc ks : Nat) (g : Sg) (v1 : Int32) (v3 : Int32) (v4 : Option Nat) (H : Heap) (locs : List Loc) (ls : Array Slot), kc ≤ mc ∧ ks ≤ ms → w_C_textNode_26 z mi mc ms post n kc ks g v1 v3 v4 → WP D cA sz g H → va_S (oA sz) s.heap H locs → lv_has ls 5 [(1, .int v1), (3, .int v3), (4, va_rf v4)] → W p l e ({ frames := 5, cells := mc, slots := ms, locals := 145 } : Room) s m args below meth c H locs kc ks (MQ below (Qg D cA sz (pR post)) args s mc ms (oA sz)) (F0 m 26 ls []) := by
  obtain ⟨hx, hb, hml, hown, hts⟩ := id S
  intro n
  induction n with
  | zero =>
    intro kc ks g v1 v3 v4 H locs ls hk h hG hS hl
    exact h.elim
  | succ n ih =>
    intro kc ks g v1 v3 v4 H locs ls hk h hG hS hl
    refine q_aload hx hb d_C_textNode_26 (lv_at hl 2 rfl) ?_
    refine q_ifnull (tgt := 60) hx hb d_C_textNode_28 (by decide) (fun e9 => ?_) (fun a20 e9 => ?_)
    · replace h := h.1 e9
      subst e9
      have hl21 : lv_has ls 5 [(1, .int v1), (3, .int v3), (4, .null)] := hl
      refine lv_null hx hb d_C_textNode_60 ?_
      exact r_aret (o := none) S hr (Or.inl ⟨_, rfl⟩) hlk hG hS h hk.1 hk.2 d_C_textNode_61
    · replace h := h.2 a20 e9
      subst e9
      have hl22 : lv_has ls 5 [(1, .int v1), (3, .int v3), (4, .ref a20)] := hl
      refine lv_aload hx hb d_C_textNode_31 (lv_at hl22 2 rfl) ?_
      refine lv_iload_n hx hb d_C_textNode_33 rfl (lv_at hl22 0 rfl) ?_
      obtain ⟨h9, h⟩ := h
      obtain ⟨c23, c24, k1, k2, h⟩ := h
      obtain ⟨n9, h9⟩ := isK1 h9
      refine q_callI (run_V (As := [.int v1]) (rest := []) S hZ hG hS (s_N_isInTextOf h) tw_631 tw_628 tw_629 tw_630 tw_6 nk_N_isInTextOf h9 (by decide) rfl ⟨Nat.le_of_ble_eq_true rfl, Nat.le_of_ble_eq_true rfl⟩ rfl hl22.1 rfl (by decide) d_C_textNode_34 ⟨k1, k2⟩) hS (fun x26 g25 H locs h32 hG hS => ?_)
      have hk := And.intro k1 k2
      replace h := h32
      refine lv_if_eq (tgt := 50) hx hb d_C_textNode_37 (by decide) (fun c9 => ?_) (fun c9 => ?_)
      · replace h := h.1 c9
        refine lv_aload hx hb d_C_textNode_50 (lv_at hl22 2 rfl) ?_
        refine r_getR (f := 18) S hZ hG rfl h.1 (hts _ tw_108) (fun _ h9 => h9) d_C_textNode_52 (fun o27 e9 => ?_)
        replace h := h.2 o27 e9
        refine q_astore (o := o27) (lv' := [(4, va_rf o27), (1, .int v1), (3, .int v3)]) hx hb d_C_textNode_55 hl22 (by decide) (.n (.k 0 rfl (by decide) (by decide) (.c 1 rfl (by decide) rfl .e))) (fun ls28 hl28 => ?_)
        refine lv_goto (tgt := 26) hx hb d_C_textNode_57 (by decide) ?_
        exact ih _ _ _ _ _ _ _ _ _ hk h hG hS (lv_sub hl28 [1, 2, 0] rfl)
      · replace h := h.2 c9
        refine lv_iload_n hx hb d_C_textNode_40 rfl (lv_at hl22 1 rfl) ?_
        refine lv_if_ne (tgt := 47) hx hb d_C_textNode_41 (by decide) (fun c9 => ?_) (fun c9 => ?_)
        · replace h := h.1 c9
          refine q_iinc (k := 1) (v := v3 + (-1 : Int32)) (lv' := [(3, .int (v3 + (-1 : Int32))), (1, .int v1), (4, .ref a20)]) hx hb d_C_textNode_47 hl22 rfl rfl (by decide) (.n (.k 0 rfl (by decide) (by decide) (.k 2 rfl (by decide) (by decide) .e))) (fun ls29 hl29 => ?_)
          refine lv_aload hx hb d_C_textNode_50 (lv_at hl29 2 rfl) ?_
          refine r_getR (f := 18) S hZ hG rfl h.1 (hts _ tw_108) (fun _ h9 => h9) d_C_textNode_52 (fun o30 e9 => ?_)
          replace h := h.2 o30 e9
          refine q_astore (o := o30) (lv' := [(4, va_rf o30), (3, .int (v3 + (-1 : Int32))), (1, .int v1)]) hx hb d_C_textNode_55 hl29 (by decide) (.n (.c 0 rfl (by decide) rfl (.k 1 rfl (by decide) (by decide) .e))) (fun ls31 hl31 => ?_)
          refine lv_goto (tgt := 26) hx hb d_C_textNode_57 (by decide) ?_
          exact ih _ _ _ _ _ _ _ _ _ hk h hG hS (lv_sub hl31 [2, 1, 0] rfl)
        · replace h := h.2 c9
          refine lv_aload hx hb d_C_textNode_44 (lv_at hl22 2 rfl) ?_
          exact r_aret (o := (some a20)) S hr (Or.inl ⟨_, rfl⟩) hlk hG hS h hk.1 hk.2 d_C_textNode_46
def w_C_textNode (z mi mc ms : Nat) (post : Option Nat → Sg → Prop) (g : Sg) (this : Nat) (p0 : Int32) (p1 : Int32) : Prop := (p1 < 0 → post none g) ∧ (¬ p1 < 0 → (isK g this [4] ∧ ∃ c11 c12 : Nat, 0 + c11 ≤ mc ∧ 0 + c12 ≤ ms ∧ w_C_lengthAfter z mi c11 c12 (fun (x14 : Int32) (g13 : Sg) => (p1 < x14 → (hasR g13 this 23 ∧ ∀ o16 : Option Nat, o16 = fR g13 23 this → ∃ a17, o16 = some a17 ∧ (hasR g13 a17 18 ∧ ∀ o18 : Option Nat, o18 = fR g13 18 a17 → (∃ n33 : Nat, w_C_textNode_26 z mi mc ms post n33 (0 + c11) (0 + c12) g13 p0 p1 o18)))) ∧ (¬ p1 < x14 → post none g13)) g this p0))
set_option maxHeartbeats 4000000 in
set_option maxRecDepth 100000 in
theorem s_C_textNode {l : Launch} {D : va_G} {cA : Nat → ClassId} {sz z mi mc ms : Nat} {g : Sg} {post : Option Nat → Sg → Prop} {this : Nat} {p0 : Int32} {p1 : Int32} (h : w_C_textNode z mi mc ms post g this p0 p1) : Met l y_C_textNode (Cond.code y_C_textNode b_C_textNode 5 (some (FieldType.object "WeaveCore$Node")) :: TBL) ({ frames := 5, cells := mc, slots := ms, locals := 145 } : Room) (Pg D cA sz z mi [.ref this, .int p0, .int p1] g) (Qg D cA sz (pR post)) mc ms (oA sz) := by
  refine m_code (lv := [(0, .ref this), (1, .int p0), (2, .int p1)]) (by decide +kernel) (Nat.le_of_ble_eq_true rfl) rfl ?_
  intro p e s m below meth c ls S hr hlk hnm hZ hG hS hl
  obtain ⟨hx, hb, hml, hown, hts⟩ := id S
  have hk : 0 ≤ mc ∧ 0 ≤ ms := ⟨Nat.zero_le _, Nat.zero_le _⟩
  refine lv_iload_n hx hb d_C_textNode_0 rfl (lv_at hl 2 rfl) ?_
  refine lv_if_lt (tgt := 13) hx hb d_C_textNode_1 (by decide) (fun c9 => ?_) (fun c9 => ?_)
  · replace h := h.1 c9
    refine lv_null hx hb d_C_textNode_13 ?_
    exact r_aret (o := none) S hr (Or.inl ⟨_, rfl⟩) hlk hG hS h hk.1 hk.2 d_C_textNode_14
  · replace h := h.2 c9
    refine lv_iload_n hx hb d_C_textNode_4 rfl (lv_at hl 2 rfl) ?_
    refine lv_aload_n hx hb d_C_textNode_5 rfl (lv_at hl 0 rfl) ?_
    refine lv_iload_n hx hb d_C_textNode_6 rfl (lv_at hl 1 rfl) ?_
    obtain ⟨h9, h⟩ := h
    obtain ⟨c11, c12, k1, k2, h⟩ := h
    obtain ⟨n9, h9⟩ := isK1 h9
    refine q_callI (run_V (As := [.int p0]) (rest := [.int p1]) S hZ hG hS (s_C_lengthAfter h) tw_627 tw_624 tw_626 tp_30 tw_1 nk_C_lengthAfter h9 (by decide) rfl ⟨Nat.le_of_ble_eq_true rfl, Nat.le_of_ble_eq_true rfl⟩ rfl hl.1 rfl (Nat.le_of_ble_eq_true rfl) d_C_textNode_7 ⟨k1, k2⟩) hS (fun x14 g13 H locs h34 hG hS => ?_)
    have hk := And.intro k1 k2
    replace h := h34
    refine lv_icmp_lt (tgt := 15) hx hb d_C_textNode_10 (by decide) (fun c9 => ?_) (fun c9 => ?_)
    · replace h := h.1 c9
      refine lv_iload_n hx hb d_C_textNode_15 rfl (lv_at hl 2 rfl) ?_
      refine q_istore_n (lv' := [(3, .int p1), (0, .ref this), (1, .int p0), (2, .int p1)]) hx hb d_C_textNode_16 rfl hl (by decide) (.n (.k 0 rfl (by decide) (by decide) (.k 1 rfl (by decide) (by decide) (.c 2 rfl (by decide) rfl .e)))) (fun ls15 hl15 => ?_)
      refine lv_aload_n hx hb d_C_textNode_17 rfl (lv_at hl15 1 rfl) ?_
      refine r_getR (f := 23) S hZ hG rfl h.1 (hts _ tw_154) (fun _ h9 => h9) d_C_textNode_18 (fun o16 e9 => ?_)
      replace h := h.2 o16 e9
      obtain ⟨a17, e9, h⟩ := h
      subst e9
      refine r_getR (f := 18) S hZ hG rfl h.1 (hts _ tw_108) (fun _ h9 => h9) d_C_textNode_21 (fun o18 e9 => ?_)
      replace h := h.2 o18 e9
      refine q_astore (o := o18) (lv' := [(4, va_rf o18), (3, .int p1), (0, .ref this), (1, .int p0), (2, .int p1)]) hx hb d_C_textNode_24 hl15 (by decide) (.n (.c 0 rfl (by decide) rfl (.k 1 rfl (by decide) (by decide) (.k 2 rfl (by decide) (by decide) (.k 3 rfl (by decide) (by decide) .e))))) (fun ls19 hl19 => ?_)
      obtain ⟨n33, h⟩ := h
      exact s_C_textNode_26 S hZ hr hlk n33 _ _ _ _ _ _ _ _ _ hk h hG hS (lv_sub hl19 [3, 1, 0] rfl)
    · replace h := h.2 c9
      refine lv_null hx hb d_C_textNode_13 ?_
      exact r_aret (o := none) S hr (Or.inl ⟨_, rfl⟩) hlk hG hS h hk.1 hk.2 d_C_textNode_14
def w_C_at (z mi mc ms : Nat) (post : Int32 → Sg → Prop) (px : Nat → Sg → Prop) (g : Sg) (this : Nat) (p0 : Int32) : Prop := (hasR g this 22 ∧ ∀ o11 : Option Nat, o11 = fR g 22 this → ∃ a12, o11 = some a12 ∧ (isK g a12 [0] ∧ ∃ c13 c14 : Nat, 0 + c13 ≤ mc ∧ 0 + c14 ≤ ms ∧ w_AL_size z mi c13 c14 (fun (x16 : Int32) (g15 : Sg) => (isK g15 this [4] ∧ ∃ c17 c18 : Nat, (0 + c13) + c17 ≤ mc ∧ (0 + c14) + c18 ≤ ms ∧ w_C_textNode z mi c17 c18 (fun (o20 : Option Nat) (g19 : Sg) => (o20 = none → ((0 + c13) + c17) + 1 ≤ mc ∧ ((0 + c14) + c18) + 6 ≤ ms ∧ px 4 g19) ∧ (∀ a22, o20 = some a22 → (hasI g19 a22 13 ∧ ∀ x25 : Int32, x25 = fI g19 13 a22 → post x25 g19))) g15 this x16 p0)) g a12))
set_option maxHeartbeats 4000000 in
set_option maxRecDepth 100000 in
theorem s_C_at {l : Launch} {D : va_G} {cA : Nat → ClassId} {sz z mi mc ms : Nat} {g : Sg} {post : Int32 → Sg → Prop} {px : Nat → Sg → Prop} {this : Nat} {p0 : Int32} (hst : l.stackTraces = false) (h : w_C_at z mi mc ms post px g this p0) : vx_Met l y_C_at (Cond.code y_C_at b_C_at 3 (some FieldType.int) :: TBL) ({ frames := 6, cells := mc, slots := ms, locals := 169 } : Room) (Pg D cA sz z mi [.ref this, .int p0] g) (Qg D cA sz (pI post)) (Xg D cA sz px) mc ms (oA sz) := by
  refine m_codeX (lv := [(0, .ref this), (1, .int p0)]) (by decide +kernel) (Nat.le_of_ble_eq_true rfl) rfl ?_
  intro p e s m below meth c ls hxt S hr hlk hnm hZ hG hS hl
  obtain ⟨hx, hb, hml, hown, hts⟩ := id S
  have hk : 0 ≤ mc ∧ 0 ≤ ms := ⟨Nat.zero_le _, Nat.zero_le _⟩
  refine lv_aload_n hx hb d_C_at_0 rfl (lv_at hl 0 rfl) ?_
  refine lv_aload_n hx hb d_C_at_1 rfl (lv_at hl 0 rfl) ?_
  refine r_getR (f := 22) S hZ hG rfl h.1 (hts _ tw_153) (fun _ h9 => h9) d_C_at_2 (fun o11 e9 => ?_)
  replace h := h.2 o11 e9
  obtain ⟨a12, e9, h⟩ := h
  subst e9
  obtain ⟨h9, h⟩ := h
  obtain ⟨c13, c14, k1, k2, h⟩ := h
  obtain ⟨n9, h9⟩ := isK1 h9
  refine q_callI (run_V (As := []) (rest := [.ref this]) S hZ hG hS (s_AL_size h) tw_99 tw_247 tw_97 tw_98 tw_4 nk_AL_size h9 (by decide) rfl ⟨Nat.le_of_ble_eq_true rfl, Nat.le_of_ble_eq_true rfl⟩ rfl hl.1 rfl (Nat.le_of_ble_eq_true rfl) d_C_at_5 ⟨k1, k2⟩) hS (fun x16 g15 H locs h27 hG hS => ?_)
  have hk := And.intro k1 k2
  replace h := h27
  refine lv_iload_n hx hb d_C_at_8 rfl (lv_at hl 1 rfl) ?_
  obtain ⟨h9, h⟩ := h
  obtain ⟨c17, c18, k1, k2, h⟩ := h
  obtain ⟨n9, h9⟩ := isK1 h9
  refine q_callR (run_V (As := [.int x16, .int p0]) (rest := []) S hZ hG hS (s_C_textNode h) tw_623 tw_620 tw_622 tp_29 tw_1 nk_C_textNode h9 (by decide) rfl ⟨Nat.le_of_ble_eq_true rfl, Nat.le_of_ble_eq_true rfl⟩ rfl hl.1 rfl (by decide) d_C_at_9 ⟨k1, k2⟩) hS (fun o20 g19 H locs h26 hG hS => ?_)
  have hk := And.intro k1 k2
  replace h := h26
  refine q_astore_n (o := o20) (lv' := [(2, va_rf o20), (0, .ref this), (1, .int p0)]) hx hb d_C_at_12 rfl hl (by decide) (.n (.k 0 rfl (by decide) (by decide) (.c 1 rfl (by decide) rfl .e))) (fun ls21 hl21 => ?_)
  refine q_aload_n hx hb d_C_at_13 rfl (lv_at hl21 0 rfl) ?_
  refine q_ifnonnull (tgt := 25) hx hb d_C_at_14 (by decide) (fun a22 e9 => ?_) (fun e9 => ?_)
  · replace h := h.2 a22 e9
    subst e9
    have hl24 : lv_has ls21 3 [(2, .ref a22), (0, .ref this), (1, .int p0)] := hl21
    refine lv_aload_n hx hb d_C_at_25 rfl (lv_at hl24 0 rfl) ?_
    refine r_getI (f := 13) S hZ hG rfl h.1 (hts _ tw_102) (fun _ h9 => h9) d_C_at_26 (fun x25 e9 => ?_)
    replace h := h.2 x25 e9
    exact vx_ret (r_iret (v := x25) S hr hlk hG hS h hk.1 hk.2 d_C_at_29)
  · replace h := h.1 e9
    subst e9
    have hl23 : lv_has ls21 3 [(2, .null), (0, .ref this), (1, .int p0)] := hl21
    exact r_throw (i := 4) S hst hZ hG hS (by decide) tw_432 tw_21 xa_C_108_110 xb_C_108_110 xo_C_108_110 hl23.1 d_C_at_17 d_C_at_20 d_C_at_21 d_C_at_24 (fun x hx => (hxt x hx).elim) (Nat.le_of_ble_eq_true rfl) (Nat.le_of_ble_eq_true rfl) rfl rfl hlk h.2.2 h.1 h.2.1
def w_L_at (z mi mc ms : Nat) (post : Int32 → Sg → Prop) (g : Sg) (p0 : Option Nat) (p1 : Int32) (p2 : Option Nat) : Prop := ∃ a11, p0 = some a11 ∧ (isK g a11 [4] ∧ ∃ c13 c14 : Nat, 0 + c13 ≤ mc ∧ 0 + c14 ≤ ms ∧ w_C_at z mi c13 c14 (fun (x16 : Int32) (g15 : Sg) => ∃ a17, p2 = some a17 ∧ (∃ j19 : Nat, inA g15 a17 103 (0 : Int32) j19 ∧ ∀ g20 : Sg, g20 = sL g15 a17 j19 (x16.toInt64) → post (0 : Int32) g20)) (fun (i21 : Nat) (g22 : Sg) => (i21 = 4 ∧ post (1 : Int32) g22)) g a11 p1)
set_option maxHeartbeats 4000000 in
set_option maxRecDepth 100000 in
theorem s_L_at {l : Launch} {D : va_G} {cA : Nat → ClassId} {sz z mi mc ms : Nat} {g : Sg} {post : Int32 → Sg → Prop} {p0 : Option Nat} {p1 : Int32} {p2 : Option Nat} (hst : l.stackTraces = false) (h : w_L_at z mi mc ms post g p0 p1 p2) : Met l y_L_at (Cond.codeWith y_L_at b_L_at 4 (some FieldType.int) [(0, 9, 12, 29)] :: TBL) ({ frames := 7, cells := mc, slots := ms, locals := 191 } : Room) (Pg D cA sz z mi [va_rf p0, .int p1, va_rf p2] g) (Qg D cA sz (pI post)) mc ms (oA sz) := by
  refine m_codeW (lv := [(0, va_rf p0), (1, .int p1), (2, va_rf p2)]) (by decide +kernel) (by simp [lg_sl, rf_cat, cat_i, cat_r, cat_l]) (by simp [lv_args, rf_cat, cat_i, cat_r, cat_l]) ?_
  intro p e s m below meth c ls htb S hr hlk hnm hZ hG hS hl
  obtain ⟨hx, hb, hml, hown, hts⟩ := id S
  have hk : 0 ≤ mc ∧ 0 ≤ ms := ⟨Nat.zero_le _, Nat.zero_le _⟩
  refine q_aload_n hx hb d_L_at_0 rfl (lv_at hl 2 rfl) ?_
  refine lv_iconst (v := (0 : Int32)) hx hb d_L_at_1 (by decide) ?_
  refine q_aload_n hx hb d_L_at_2 rfl (lv_at hl 0 rfl) ?_
  refine lv_iload_n hx hb d_L_at_3 rfl (lv_at hl 1 rfl) ?_
  obtain ⟨a11, e9, h⟩ := h
  subst e9
  have hl12 : lv_has ls 4 [(0, .ref a11), (1, .int p1), (2, va_rf p2)] := hl
  obtain ⟨h9, h⟩ := h
  obtain ⟨c13, c14, k1, k2, h⟩ := h
  obtain ⟨n9, h9⟩ := isK1 h9
  refine x_callI (xrun_V (As := [.int p1]) (rest := [.int ((0 : Int32)), va_rf p2]) S hZ hG hS (s_C_at hst h) tw_619 tw_616 tw_617 tw_618 tw_1 nk_C_at h9 (by decide) rfl ⟨Nat.le_of_ble_eq_true rfl, Nat.le_of_ble_eq_true rfl⟩ rfl hl.1 rfl (by simp [rf_cat, cat_i, cat_r, cat_l]) d_L_at_4 ⟨k1, k2⟩) hS (fun i9 ce q9 g22 H locs hi h26 hG hS hq1 hq2 hq3 => ?_) (fun x16 g15 H locs h25 hG hS => ?_)
  · have hk := And.intro k1 k2
    replace h := h26
    obtain ⟨rfl, h⟩ := h
    refine r_catch (i := 4) S hZ (by decide) [] ⟨0, 9, 12, 29⟩ [] htb (fun y hy => nomatch hy) (by decide) (by decide) tw_398 hq1 hq2 hq3 ?_
    refine q_astore_n (o := (some q9)) (lv' := [(0, .ref a11), (1, .int p1), (2, va_rf p2)]) hx hb d_L_at_12 rfl hl12 (by decide) (.k 0 rfl (by decide) (by decide) (.k 1 rfl (by decide) (by decide) (.c 2 rfl (by decide) (rf_cat _) .e))) (fun ls24 hl24 => ?_)
    refine lv_iconst (v := (1 : Int32)) hx hb d_L_at_13 (by decide) ?_
    exact r_iret (v := (1 : Int32)) S hr hlk hG hS h hk.1 hk.2 d_L_at_14
  · have hk := And.intro k1 k2
    replace h := h25
    refine lv_i2l hx hb d_L_at_7 rfl ?_
    obtain ⟨a17, e9, h⟩ := h
    subst e9
    have hl18 : lv_has ls 4 [(0, .ref a11), (1, .int p1), (2, .ref a17)] := hl12
    obtain ⟨j19, h9, h⟩ := h
    refine r_last S hZ hG hS h9 d_L_at_8 (fun g20 H locs e9 hG hS => ?_)
    replace h := h g20 e9
    refine lv_goto (tgt := 15) hx hb d_L_at_9 (by decide) ?_
    refine lv_iconst (v := (0 : Int32)) hx hb d_L_at_15 (by decide) ?_
    exact r_iret (v := (0 : Int32)) S hr hlk hG hS h hk.1 hk.2 d_L_at_16
