def w_C_nextKnown_5 (z mi mc ms : Nat) (post : Option Nat → Sg → Prop) : Nat → Nat → Nat → Sg → Nat → Option Nat → Prop
  | 0 => fun _ _ _ _ _ => False
  | n + 1 => fun kc ks g this v2 => (v2 = none → post none g) ∧ (∀ a15, v2 = some a15 → (hasR g this 25 ∧ ∀ o18 : Option Nat, o18 = fR g 25 this → (isK g a15 [3] ∧ ∃ c19 c20 : Nat, kc + c19 ≤ mc ∧ ks + c20 ≤ ms ∧ w_E_isIn z mi c19 c20 (fun (x22 : Int32) (g21 : Sg) => (x22 = 0 → (hasR g21 a15 18 ∧ ∀ o23 : Option Nat, o23 = fR g21 18 a15 → w_C_nextKnown_5 z mi mc ms post n (kc + c19) (ks + c20) g21 this o23)) ∧ (¬ x22 = 0 → post (some a15) g21)) g a15 o18)))
set_option maxHeartbeats 4000000 in
set_option maxRecDepth 100000 in
theorem s_C_nextKnown_5 {p : Program} {l : Launch} {e : Env} {s : State} {m : MethodId} {args : Array Value} {below : List Frame} {meth : Method} {c : Code} {D : va_G} {cA : Nat → ClassId} {sz z mi mc ms : Nat} {post : Option Nat → Sg → Prop} (S : CallFix p m c b_C_nextKnown 3 s args TBL "WeaveCore") (hZ : Ws D cA sz z mi s) (hr : meth.sig.returnType = (some (FieldType.object "WeaveCore$Node"))) (hlk : meth.locks = false) :
    ∀ n : Nat, ∀ (kc ks : Nat) (g : Sg) (this : Nat) (v2 : Option Nat) (H : Heap) (locs : List Loc) (ls : Array Slot), kc ≤ mc ∧ ks ≤ ms → w_C_nextKnown_5 z mi mc ms post n kc ks g this v2 → WP D cA sz g H → va_S (oA sz) s.heap H locs → lv_has ls 3 [(0, .ref this), (2, va_rf v2)] → W p l e ({ frames := 1, cells := mc, slots := ms, locals := 21 } : Room) s m args below meth c H locs kc ks (MQ below (Qg D cA sz (pR post)) args s mc ms (oA sz)) (F0 m 5 ls []) := by
  obtain ⟨hx, hb, hml, hown, hts⟩ := id S
  intro n
  induction n with
  | zero =>
    intro kc ks g this v2 H locs ls hk h hG hS hl
    exact h.elim
  | succ n ih =>
    intro kc ks g this v2 H locs ls hk h hG hS hl
    refine q_aload_n hx hb d_C_nextKnown_5 rfl (lv_at hl 1 rfl) ?_
    refine q_ifnull (tgt := 30) hx hb d_C_nextKnown_6 (by decide) (fun e9 => ?_) (fun a15 e9 => ?_)
    · replace h := h.1 e9
      subst e9
      have hl16 : lv_has ls 3 [(0, .ref this), (2, .null)] := hl
      refine lv_null hx hb d_C_nextKnown_30 ?_
      exact r_aret (o := none) S hr (Or.inl ⟨_, rfl⟩) hlk hG hS h hk.1 hk.2 d_C_nextKnown_31
    · replace h := h.2 a15 e9
      subst e9
      have hl17 : lv_has ls 3 [(0, .ref this), (2, .ref a15)] := hl
      refine lv_aload_n hx hb d_C_nextKnown_9 rfl (lv_at hl17 1 rfl) ?_
      refine lv_aload_n hx hb d_C_nextKnown_10 rfl (lv_at hl17 0 rfl) ?_
      refine r_getR (f := 25) S hZ hG rfl h.1 (hts _ tw_156) (fun _ h9 => h9) d_C_nextKnown_11 (fun o18 e9 => ?_)
      replace h := h.2 o18 e9
      obtain ⟨h9, h⟩ := h
      obtain ⟨c19, c20, k1, k2, h⟩ := h
      obtain ⟨n9, h9⟩ := isK1 h9
      refine q_callI (run_U (As := [va_rf o18]) (rest := []) S hZ hG hS (s_E_isIn h) tw_220 tw_482 tw_388 tw_390 tw_216 tw_5 rfl nk_E_isIn h9 (by decide) rfl ⟨Nat.le_of_ble_eq_true rfl, Nat.le_of_ble_eq_true rfl⟩ rfl hl17.1 rfl (by decide) d_C_nextKnown_14 ⟨k1, k2⟩) hS (fun x22 g21 H locs h25 hG hS => ?_)
      have hk := And.intro k1 k2
      replace h := h25
      refine lv_if_eq (tgt := 22) hx hb d_C_nextKnown_17 (by decide) (fun c9 => ?_) (fun c9 => ?_)
      · replace h := h.1 c9
        refine lv_aload_n hx hb d_C_nextKnown_22 rfl (lv_at hl17 1 rfl) ?_
        refine r_getR (f := 18) S hZ hG rfl h.1 (hts _ tw_108) (fun _ h9 => h9) d_C_nextKnown_23 (fun o23 e9 => ?_)
        replace h := h.2 o23 e9
        refine q_astore_n (o := o23) (lv' := [(2, va_rf o23), (0, .ref this)]) hx hb d_C_nextKnown_26 rfl hl17 (by decide) (.n (.k 0 rfl (by decide) (by decide) .e)) (fun ls24 hl24 => ?_)
        refine lv_goto (tgt := 5) hx hb d_C_nextKnown_27 (by decide) ?_
        exact ih _ _ _ _ _ _ _ _ hk h hG hS (lv_sub hl24 [1, 0] rfl)
      · replace h := h.2 c9
        refine lv_aload_n hx hb d_C_nextKnown_20 rfl (lv_at hl17 1 rfl) ?_
        exact r_aret (o := (some a15)) S hr (Or.inl ⟨_, rfl⟩) hlk hG hS h hk.1 hk.2 d_C_nextKnown_21
def w_C_nextKnown (z mi mc ms : Nat) (post : Option Nat → Sg → Prop) (g : Sg) (this : Nat) (p0 : Option Nat) : Prop := ∃ a11, p0 = some a11 ∧ (hasR g a11 18 ∧ ∀ o13 : Option Nat, o13 = fR g 18 a11 → (∃ n26 : Nat, w_C_nextKnown_5 z mi mc ms post n26 0 0 g this o13))
set_option maxHeartbeats 4000000 in
set_option maxRecDepth 100000 in
theorem s_C_nextKnown {l : Launch} {D : va_G} {cA : Nat → ClassId} {sz z mi mc ms : Nat} {g : Sg} {post : Option Nat → Sg → Prop} {this : Nat} {p0 : Option Nat} (h : w_C_nextKnown z mi mc ms post g this p0) : Met l y_C_nextKnown (Cond.code y_C_nextKnown b_C_nextKnown 3 (some (FieldType.object "WeaveCore$Node")) :: TBL) ({ frames := 1, cells := mc, slots := ms, locals := 21 } : Room) (Pg D cA sz z mi [.ref this, va_rf p0] g) (Qg D cA sz (pR post)) mc ms (oA sz) := by
  refine m_code (lv := [(0, .ref this), (1, va_rf p0)]) (by decide +kernel) (by simp [lg_sl, rf_cat, cat_i, cat_r, cat_l]) (by simp [lv_args, rf_cat, cat_i, cat_r, cat_l]) ?_
  intro p e s m below meth c ls S hr hlk hnm hZ hG hS hl
  obtain ⟨hx, hb, hml, hown, hts⟩ := id S
  have hk : 0 ≤ mc ∧ 0 ≤ ms := ⟨Nat.zero_le _, Nat.zero_le _⟩
  refine q_aload_n hx hb d_C_nextKnown_0 rfl (lv_at hl 1 rfl) ?_
  obtain ⟨a11, e9, h⟩ := h
  subst e9
  have hl12 : lv_has ls 3 [(0, .ref this), (1, .ref a11)] := hl
  refine r_getR (f := 18) S hZ hG rfl h.1 (hts _ tw_108) (fun _ h9 => h9) d_C_nextKnown_1 (fun o13 e9 => ?_)
  replace h := h.2 o13 e9
  refine q_astore_n (o := o13) (lv' := [(2, va_rf o13), (0, .ref this), (1, .ref a11)]) hx hb d_C_nextKnown_4 rfl hl12 (by decide) (.n (.k 0 rfl (by decide) (by decide) (.c 1 rfl (by decide) rfl .e))) (fun ls14 hl14 => ?_)
  obtain ⟨n26, h⟩ := h
  exact s_C_nextKnown_5 S hZ hr hlk n26 _ _ _ _ _ _ _ _ hk h hG hS (lv_sub hl14 [1, 0] rfl)
def w_E_hasSmallerIdThan (z mi mc ms : Nat) (post : Int32 → Sg → Prop) (g : Sg) (this : Nat) (p0 : Option Nat) : Prop := (hasR g this 7 ∧ ∀ o11 : Option Nat, o11 = fR g 7 this → ∃ a12, p0 = some a12 ∧ (hasR g a12 7 ∧ ∀ o14 : Option Nat, o14 = fR g 7 a12 → (¬ o11 = o14 → (hasR g this 7 ∧ ∀ o15 : Option Nat, o15 = fR g 7 this → ∃ a16, o15 = some a16 ∧ (hasI g a16 4 ∧ ∀ x17 : Int32, x17 = fI g 4 a16 → (hasR g a12 7 ∧ ∀ o18 : Option Nat, o18 = fR g 7 a12 → ∃ a19, o18 = some a19 ∧ (hasI g a19 4 ∧ ∀ x20 : Int32, x20 = fI g 4 a19 → (x20 ≤ x17 → post (0 : Int32) g) ∧ (¬ x20 ≤ x17 → post (1 : Int32) g)))))) ∧ (o11 = o14 → (hasI g this 8 ∧ ∀ x21 : Int32, x21 = fI g 8 this → (hasI g a12 8 ∧ ∀ x22 : Int32, x22 = fI g 8 a12 → (x22 ≤ x21 → post (0 : Int32) g) ∧ (¬ x22 ≤ x21 → post (1 : Int32) g))))))
set_option maxHeartbeats 4000000 in
set_option maxRecDepth 100000 in
theorem s_E_hasSmallerIdThan {l : Launch} {D : va_G} {cA : Nat → ClassId} {sz z mi mc ms : Nat} {g : Sg} {post : Int32 → Sg → Prop} {this : Nat} {p0 : Option Nat} (h : w_E_hasSmallerIdThan z mi mc ms post g this p0) : Met l y_E_hasSmallerIdThan (Cond.code y_E_hasSmallerIdThan b_E_hasSmallerIdThan 2 (some FieldType.boolean) :: TBL) ({ frames := 0, cells := mc, slots := ms, locals := 0 } : Room) (Pg D cA sz z mi [.ref this, va_rf p0] g) (Qg D cA sz (pI post)) mc ms (oA sz) := by
  refine m_code (lv := [(0, .ref this), (1, va_rf p0)]) (by decide +kernel) (by simp [lg_sl, rf_cat, cat_i, cat_r, cat_l]) (by simp [lv_args, rf_cat, cat_i, cat_r, cat_l]) ?_
  intro p e s m below meth c ls S hr hlk hnm hZ hG hS hl
  obtain ⟨hx, hb, hml, hown, hts⟩ := id S
  have hk : 0 ≤ mc ∧ 0 ≤ ms := ⟨Nat.zero_le _, Nat.zero_le _⟩
  refine lv_aload_n hx hb d_E_hasSmallerIdThan_0 rfl (lv_at hl 0 rfl) ?_
  refine r_getR (f := 7) S hZ hG rfl h.1 (hts _ tw_113) (fun _ h9 => h9) d_E_hasSmallerIdThan_1 (fun o11 e9 => ?_)
  replace h := h.2 o11 e9
  refine q_aload_n hx hb d_E_hasSmallerIdThan_4 rfl (lv_at hl 1 rfl) ?_
  obtain ⟨a12, e9, h⟩ := h
  subst e9
  have hl13 : lv_has ls 2 [(0, .ref this), (1, .ref a12)] := hl
  refine r_getR (f := 7) S hZ hG rfl h.1 (hts _ tw_113) (fun _ h9 => h9) d_E_hasSmallerIdThan_5 (fun o14 e9 => ?_)
  replace h := h.2 o14 e9
  refine lv_acmp_ne (rx := o11) (ry := o14) (tgt := 30) hx hb d_E_hasSmallerIdThan_8 (by decide) (fun c9 => ?_) (fun c9 => ?_)
  · replace h := h.1 c9
    refine lv_aload_n hx hb d_E_hasSmallerIdThan_30 rfl (lv_at hl13 0 rfl) ?_
    refine r_getR (f := 7) S hZ hG rfl h.1 (hts _ tw_113) (fun _ h9 => h9) d_E_hasSmallerIdThan_31 (fun o15 e9 => ?_)
    replace h := h.2 o15 e9
    obtain ⟨a16, e9, h⟩ := h
    subst e9
    refine r_getI (f := 4) S hZ hG rfl h.1 (hts _ tw_73) (fun _ h9 => h9) d_E_hasSmallerIdThan_34 (fun x17 e9 => ?_)
    replace h := h.2 x17 e9
    refine lv_aload_n hx hb d_E_hasSmallerIdThan_37 rfl (lv_at hl13 1 rfl) ?_
    refine r_getR (f := 7) S hZ hG rfl h.1 (hts _ tw_113) (fun _ h9 => h9) d_E_hasSmallerIdThan_38 (fun o18 e9 => ?_)
    replace h := h.2 o18 e9
    obtain ⟨a19, e9, h⟩ := h
    subst e9
    refine r_getI (f := 4) S hZ hG rfl h.1 (hts _ tw_73) (fun _ h9 => h9) d_E_hasSmallerIdThan_41 (fun x20 e9 => ?_)
    replace h := h.2 x20 e9
    refine lv_icmp_ge (tgt := 51) hx hb d_E_hasSmallerIdThan_44 (by decide) (fun c9 => ?_) (fun c9 => ?_)
    · replace h := h.1 c9
      refine lv_iconst (v := (0 : Int32)) hx hb d_E_hasSmallerIdThan_51 (by decide) ?_
      exact r_zret (v := (0 : Int32)) S hr hlk rfl hG hS h hk.1 hk.2 d_E_hasSmallerIdThan_52
    · replace h := h.2 c9
      refine lv_iconst (v := (1 : Int32)) hx hb d_E_hasSmallerIdThan_47 (by decide) ?_
      refine lv_goto (tgt := 52) hx hb d_E_hasSmallerIdThan_48 (by decide) ?_
      exact r_zret (v := (1 : Int32)) S hr hlk rfl hG hS h hk.1 hk.2 d_E_hasSmallerIdThan_52
  · replace h := h.2 c9
    refine lv_aload_n hx hb d_E_hasSmallerIdThan_11 rfl (lv_at hl13 0 rfl) ?_
    refine r_getI (f := 8) S hZ hG rfl h.1 (hts _ tw_117) (fun _ h9 => h9) d_E_hasSmallerIdThan_12 (fun x21 e9 => ?_)
    replace h := h.2 x21 e9
    refine lv_aload_n hx hb d_E_hasSmallerIdThan_15 rfl (lv_at hl13 1 rfl) ?_
    refine r_getI (f := 8) S hZ hG rfl h.1 (hts _ tw_117) (fun _ h9 => h9) d_E_hasSmallerIdThan_16 (fun x22 e9 => ?_)
    replace h := h.2 x22 e9
    refine lv_icmp_ge (tgt := 26) hx hb d_E_hasSmallerIdThan_19 (by decide) (fun c9 => ?_) (fun c9 => ?_)
    · replace h := h.1 c9
      refine lv_iconst (v := (0 : Int32)) hx hb d_E_hasSmallerIdThan_26 (by decide) ?_
      refine lv_goto (tgt := 52) hx hb d_E_hasSmallerIdThan_27 (by decide) ?_
      exact r_zret (v := (0 : Int32)) S hr hlk rfl hG hS h hk.1 hk.2 d_E_hasSmallerIdThan_52
    · replace h := h.2 c9
      refine lv_iconst (v := (1 : Int32)) hx hb d_E_hasSmallerIdThan_22 (by decide) ?_
      refine lv_goto (tgt := 52) hx hb d_E_hasSmallerIdThan_23 (by decide) ?_
      exact r_zret (v := (1 : Int32)) S hr hlk rfl hG hS h hk.1 hk.2 d_E_hasSmallerIdThan_52
def w_N_lastSmaller_4 (z mi mc ms : Nat) (post : Option Nat → Sg → Prop) : Nat → Nat → Nat → Sg → Nat → Option Nat → Option Nat → Prop
  | 0 => fun _ _ _ _ _ _ => False
  | n + 1 => fun kc ks g this v2 v3 => (v3 = none → post v2 g) ∧ (∀ a13, v3 = some a13 → (isK g a13 [3] ∧ ∃ c16 c17 : Nat, kc + c16 ≤ mc ∧ ks + c17 ≤ ms ∧ w_E_hasSmallerIdThan z mi c16 c17 (fun (x19 : Int32) (g18 : Sg) => (x19 = 0 → (hasR g18 a13 16 ∧ ∀ o20 : Option Nat, o20 = fR g18 16 a13 → w_N_lastSmaller_4 z mi mc ms post n (kc + c16) (ks + c17) g18 this v2 o20)) ∧ (¬ x19 = 0 → (hasR g18 a13 16 ∧ ∀ o23 : Option Nat, o23 = fR g18 16 a13 → w_N_lastSmaller_4 z mi mc ms post n (kc + c16) (ks + c17) g18 this (some a13) o23))) g a13 (some this)))
set_option maxHeartbeats 4000000 in
set_option maxRecDepth 100000 in
theorem s_N_lastSmaller_4 {p : Program} {l : Launch} {e : Env} {s : State} {m : MethodId} {args : Array Value} {below : List Frame} {meth : Method} {c : Code} {D : va_G} {cA : Nat → ClassId} {sz z mi mc ms : Nat} {post : Option Nat → Sg → Prop} (S : CallFix p m c b_N_lastSmaller 4 s args TBL "WeaveCore$Node") (hZ : Ws D cA sz z mi s) (hr : meth.sig.returnType = (some (FieldType.object "WeaveCore$Node"))) (hlk : meth.locks = false) :
    ∀ n : Nat, ∀ (kc ks : Nat) (g : Sg) (this : Nat) (v2 : Option Nat) (v3 : Option Nat) (H : Heap) (locs : List Loc) (ls : Array Slot), kc ≤ mc ∧ ks ≤ ms → w_N_lastSmaller_4 z mi mc ms post n kc ks g this v2 v3 → WP D cA sz g H → va_S (oA sz) s.heap H locs → lv_has ls 4 [(0, .ref this), (2, va_rf v2), (3, va_rf v3)] → W p l e ({ frames := 1, cells := mc, slots := ms, locals := 21 } : Room) s m args below meth c H locs kc ks (MQ below (Qg D cA sz (pR post)) args s mc ms (oA sz)) (F0 m 4 ls []) := by
  obtain ⟨hx, hb, hml, hown, hts⟩ := id S
  intro n
  induction n with
  | zero =>
    intro kc ks g this v2 v3 H locs ls hk h hG hS hl
    exact h.elim
  | succ n ih =>
    intro kc ks g this v2 v3 H locs ls hk h hG hS hl
    refine q_aload_n hx hb d_N_lastSmaller_4 rfl (lv_at hl 2 rfl) ?_
    refine q_ifnull (tgt := 26) hx hb d_N_lastSmaller_5 (by decide) (fun e9 => ?_) (fun a13 e9 => ?_)
    · replace h := h.1 e9
      subst e9
      have hl14 : lv_has ls 4 [(0, .ref this), (2, va_rf v2), (3, .null)] := hl
      refine q_aload_n hx hb d_N_lastSmaller_26 rfl (lv_at hl14 1 rfl) ?_
      exact r_aret (o := v2) S hr (Or.inl ⟨_, rfl⟩) hlk hG hS h hk.1 hk.2 d_N_lastSmaller_27
    · replace h := h.2 a13 e9
      subst e9
      have hl15 : lv_has ls 4 [(0, .ref this), (2, va_rf v2), (3, .ref a13)] := hl
      refine lv_aload_n hx hb d_N_lastSmaller_8 rfl (lv_at hl15 2 rfl) ?_
      refine lv_aload_n hx hb d_N_lastSmaller_9 rfl (lv_at hl15 0 rfl) ?_
      obtain ⟨h9, h⟩ := h
      obtain ⟨c16, c17, k1, k2, h⟩ := h
      obtain ⟨n9, h9⟩ := isK1 h9
      refine q_callI (run_U (As := [va_rf (some this)]) (rest := []) S hZ hG hS (s_E_hasSmallerIdThan h) tw_496 tw_491 tw_492 tw_494 tw_495 tw_5 rfl nk_E_hasSmallerIdThan h9 (by decide) rfl ⟨Nat.le_of_ble_eq_true rfl, Nat.le_of_ble_eq_true rfl⟩ rfl hl15.1 rfl (by decide) d_N_lastSmaller_10 ⟨k1, k2⟩) hS (fun x19 g18 H locs h25 hG hS => ?_)
      have hk := And.intro k1 k2
      replace h := h25
      refine lv_if_eq (tgt := 18) hx hb d_N_lastSmaller_13 (by decide) (fun c9 => ?_) (fun c9 => ?_)
      · replace h := h.1 c9
        refine lv_aload_n hx hb d_N_lastSmaller_18 rfl (lv_at hl15 2 rfl) ?_
        refine r_getR (f := 16) S hZ hG rfl h.1 (hts _ tw_105) (fun _ h9 => h9) d_N_lastSmaller_19 (fun o20 e9 => ?_)
        replace h := h.2 o20 e9
        refine q_astore_n (o := o20) (lv' := [(3, va_rf o20), (0, .ref this), (2, va_rf v2)]) hx hb d_N_lastSmaller_22 rfl hl15 (by decide) (.n (.k 0 rfl (by decide) (by decide) (.c 1 rfl (by decide) (rf_cat _) .e))) (fun ls21 hl21 => ?_)
        refine lv_goto (tgt := 4) hx hb d_N_lastSmaller_23 (by decide) ?_
        exact ih _ _ _ _ _ _ _ _ _ hk h hG hS (lv_sub hl21 [1, 2, 0] rfl)
      · replace h := h.2 c9
        refine lv_aload_n hx hb d_N_lastSmaller_16 rfl (lv_at hl15 2 rfl) ?_
        refine q_astore_n (o := (some a13)) (lv' := [(2, .ref a13), (0, .ref this), (3, .ref a13)]) hx hb d_N_lastSmaller_17 rfl hl15 (by decide) (.n (.k 0 rfl (by decide) (by decide) (.k 2 rfl (by decide) (by decide) .e))) (fun ls22 hl22 => ?_)
        refine lv_aload_n hx hb d_N_lastSmaller_18 rfl (lv_at hl22 2 rfl) ?_
        refine r_getR (f := 16) S hZ hG rfl h.1 (hts _ tw_105) (fun _ h9 => h9) d_N_lastSmaller_19 (fun o23 e9 => ?_)
        replace h := h.2 o23 e9
        refine q_astore_n (o := o23) (lv' := [(3, va_rf o23), (2, .ref a13), (0, .ref this)]) hx hb d_N_lastSmaller_22 rfl hl22 (by decide) (.n (.c 0 rfl (by decide) rfl (.k 1 rfl (by decide) (by decide) .e))) (fun ls24 hl24 => ?_)
        refine lv_goto (tgt := 4) hx hb d_N_lastSmaller_23 (by decide) ?_
        exact ih _ _ _ _ _ _ _ _ _ hk h hG hS (lv_sub hl24 [2, 1, 0] rfl)
def w_N_lastSmaller (z mi mc ms : Nat) (post : Option Nat → Sg → Prop) (g : Sg) (this : Nat) (p0 : Option Nat) : Prop := (∃ n26 : Nat, w_N_lastSmaller_4 z mi mc ms post n26 0 0 g this none p0)
set_option maxHeartbeats 4000000 in
set_option maxRecDepth 100000 in
theorem s_N_lastSmaller {l : Launch} {D : va_G} {cA : Nat → ClassId} {sz z mi mc ms : Nat} {g : Sg} {post : Option Nat → Sg → Prop} {this : Nat} {p0 : Option Nat} (h : w_N_lastSmaller z mi mc ms post g this p0) : Met l y_N_lastSmaller (Cond.code y_N_lastSmaller b_N_lastSmaller 4 (some (FieldType.object "WeaveCore$Node")) :: TBL) ({ frames := 1, cells := mc, slots := ms, locals := 21 } : Room) (Pg D cA sz z mi [.ref this, va_rf p0] g) (Qg D cA sz (pR post)) mc ms (oA sz) := by
  refine m_code (lv := [(0, .ref this), (1, va_rf p0)]) (by decide +kernel) (by simp [lg_sl, rf_cat, cat_i, cat_r, cat_l]) (by simp [lv_args, rf_cat, cat_i, cat_r, cat_l]) ?_
  intro p e s m below meth c ls S hr hlk hnm hZ hG hS hl
  obtain ⟨hx, hb, hml, hown, hts⟩ := id S
  have hk : 0 ≤ mc ∧ 0 ≤ ms := ⟨Nat.zero_le _, Nat.zero_le _⟩
  refine lv_null hx hb d_N_lastSmaller_0 ?_
  refine q_astore_n (o := none) (lv' := [(2, .null), (0, .ref this), (1, va_rf p0)]) hx hb d_N_lastSmaller_1 rfl hl (by decide) (.n (.k 0 rfl (by decide) (by decide) (.c 1 rfl (by decide) (rf_cat _) .e))) (fun ls11 hl11 => ?_)
  refine q_aload_n hx hb d_N_lastSmaller_2 rfl (lv_at hl11 2 rfl) ?_
  refine q_astore_n (o := p0) (lv' := [(3, va_rf p0), (2, .null), (0, .ref this), (1, va_rf p0)]) hx hb d_N_lastSmaller_3 rfl hl11 (by decide) (.n (.c 0 rfl (by decide) rfl (.k 1 rfl (by decide) (by decide) (.k 2 rfl (by decide) (by decide) .e)))) (fun ls12 hl12 => ?_)
  obtain ⟨n26, h⟩ := h
  exact s_N_lastSmaller_4 S hZ hr hlk n26 _ _ _ _ _ _ _ _ _ hk h hG hS (lv_sub hl12 [2, 1, 0] rfl)
def w_N_putBehind (z mi mc ms : Nat) (post : Sg → Prop) (g : Sg) (this : Nat) (p0 : Option Nat) : Prop := ∃ a11, p0 = some a11 ∧ (hasR g a11 17 ∧ ∀ g13 : Sg, g13 = wR g 17 a11 (some this) → (hasR g13 this 18 ∧ ∀ o14 : Option Nat, o14 = fR g13 18 this → (hasR g13 a11 18 ∧ ∀ g15 : Sg, g15 = wR g13 18 a11 o14 → (hasR g15 this 18 ∧ ∀ o16 : Option Nat, o16 = fR g15 18 this → (o16 = none → (hasR g15 this 18 ∧ ∀ g18 : Sg, g18 = wR g15 18 this (some a11) → post g18)) ∧ (∀ a17, o16 = some a17 → (hasR g15 this 18 ∧ ∀ o19 : Option Nat, o19 = fR g15 18 this → ∃ a20, o19 = some a20 ∧ (hasR g15 a20 17 ∧ ∀ g21 : Sg, g21 = wR g15 17 a20 (some a11) → (hasR g21 this 18 ∧ ∀ g22 : Sg, g22 = wR g21 18 this (some a11) → post g22))))))))
set_option maxHeartbeats 4000000 in
set_option maxRecDepth 100000 in
theorem s_N_putBehind {l : Launch} {D : va_G} {cA : Nat → ClassId} {sz z mi mc ms : Nat} {g : Sg} {post : Sg → Prop} {this : Nat} {p0 : Option Nat} (h : w_N_putBehind z mi mc ms post g this p0) : Met l y_N_putBehind (Cond.code y_N_putBehind b_N_putBehind 2 none :: TBL) ({ frames := 0, cells := mc, slots := ms, locals := 0 } : Room) (Pg D cA sz z mi [.ref this, va_rf p0] g) (Qg D cA sz (pV post)) mc ms (oA sz) := by
  refine m_code (lv := [(0, .ref this), (1, va_rf p0)]) (by decide +kernel) (by simp [lg_sl, rf_cat, cat_i, cat_r, cat_l]) (by simp [lv_args, rf_cat, cat_i, cat_r, cat_l]) ?_
  intro p e s m below meth c ls S hr hlk hnm hZ hG hS hl
  obtain ⟨hx, hb, hml, hown, hts⟩ := id S
  have hk : 0 ≤ mc ∧ 0 ≤ ms := ⟨Nat.zero_le _, Nat.zero_le _⟩
  refine q_aload_n hx hb d_N_putBehind_0 rfl (lv_at hl 1 rfl) ?_
  refine lv_aload_n hx hb d_N_putBehind_1 rfl (lv_at hl 0 rfl) ?_
  obtain ⟨a11, e9, h⟩ := h
  subst e9
  have hl12 : lv_has ls 2 [(0, .ref this), (1, .ref a11)] := hl
  refine r_putR (f := 17) (v := (some this)) S hZ hG hS rfl h.1 (hts _ tw_106) (fun _ h9 => h9) (Or.inl rfl) d_N_putBehind_2 (fun g13 H locs e9 hG hS => ?_)
  replace h := h.2 g13 e9
  refine lv_aload_n hx hb d_N_putBehind_5 rfl (lv_at hl12 1 rfl) ?_
  refine lv_aload_n hx hb d_N_putBehind_6 rfl (lv_at hl12 0 rfl) ?_
  refine r_getR (f := 18) S hZ hG rfl h.1 (hts _ tw_107) (fun _ h9 => h9) d_N_putBehind_7 (fun o14 e9 => ?_)
  replace h := h.2 o14 e9
  refine r_putR (f := 18) (v := o14) S hZ hG hS rfl h.1 (hts _ tw_107) (fun _ h9 => h9) (Or.inl rfl) d_N_putBehind_10 (fun g15 H locs e9 hG hS => ?_)
  replace h := h.2 g15 e9
  refine lv_aload_n hx hb d_N_putBehind_13 rfl (lv_at hl12 0 rfl) ?_
  refine r_getR (f := 18) S hZ hG rfl h.1 (hts _ tw_107) (fun _ h9 => h9) d_N_putBehind_14 (fun o16 e9 => ?_)
  replace h := h.2 o16 e9
  refine q_ifnull (tgt := 28) hx hb d_N_putBehind_17 (by decide) (fun e9 => ?_) (fun a17 e9 => ?_)
  · replace h := h.1 e9
    subst e9
    refine lv_aload_n hx hb d_N_putBehind_28 rfl (lv_at hl12 0 rfl) ?_
    refine lv_aload_n hx hb d_N_putBehind_29 rfl (lv_at hl12 1 rfl) ?_
    refine r_putR (f := 18) (v := (some a11)) S hZ hG hS rfl h.1 (hts _ tw_107) (fun _ h9 => h9) (Or.inl rfl) d_N_putBehind_30 (fun g18 H locs e9 hG hS => ?_)
    replace h := h.2 g18 e9
    exact r_vret S hr hlk hG hS h hk.1 hk.2 d_N_putBehind_33
  · replace h := h.2 a17 e9
    subst e9
    refine lv_aload_n hx hb d_N_putBehind_20 rfl (lv_at hl12 0 rfl) ?_
    refine r_getR (f := 18) S hZ hG rfl h.1 (hts _ tw_107) (fun _ h9 => h9) d_N_putBehind_21 (fun o19 e9 => ?_)
    replace h := h.2 o19 e9
    refine lv_aload_n hx hb d_N_putBehind_24 rfl (lv_at hl12 1 rfl) ?_
    obtain ⟨a20, e9, h⟩ := h
    subst e9
    refine r_putR (f := 17) (v := (some a11)) S hZ hG hS rfl h.1 (hts _ tw_106) (fun _ h9 => h9) (Or.inl rfl) d_N_putBehind_25 (fun g21 H locs e9 hG hS => ?_)
    replace h := h.2 g21 e9
    refine lv_aload_n hx hb d_N_putBehind_28 rfl (lv_at hl12 0 rfl) ?_
    refine lv_aload_n hx hb d_N_putBehind_29 rfl (lv_at hl12 1 rfl) ?_
    refine r_putR (f := 18) (v := (some a11)) S hZ hG hS rfl h.1 (hts _ tw_107) (fun _ h9 => h9) (Or.inl rfl) d_N_putBehind_30 (fun g22 H locs e9 hG hS => ?_)
    replace h := h.2 g22 e9
    exact r_vret S hr hlk hG hS h hk.1 hk.2 d_N_putBehind_33
def w_N_lastSibling_2 (z mi mc ms : Nat) (post : Option Nat → Sg → Prop) : Nat → Nat → Nat → Sg → Option Nat → Prop
  | 0 => fun _ _ _ _ => False
  | n + 1 => fun kc ks g v1 => ∃ a12, v1 = some a12 ∧ (hasR g a12 16 ∧ ∀ o14 : Option Nat, o14 = fR g 16 a12 → (o14 = none → post (some a12) g) ∧ (∀ a15, o14 = some a15 → (hasR g a12 16 ∧ ∀ o16 : Option Nat, o16 = fR g 16 a12 → w_N_lastSibling_2 z mi mc ms post n kc ks g o16)))
set_option maxHeartbeats 4000000 in
set_option maxRecDepth 100000 in
theorem s_N_lastSibling_2 {p : Program} {l : Launch} {e : Env} {s : State} {m : MethodId} {args : Array Value} {below : List Frame} {meth : Method} {c : Code} {D : va_G} {cA : Nat → ClassId} {sz z mi mc ms : Nat} {post : Option Nat → Sg → Prop} (S : CallFix p m c b_N_lastSibling 2 s args TBL "WeaveCore$Node") (hZ : Ws D cA sz z mi s) (hr : meth.sig.returnType = (some (FieldType.object "WeaveCore$Node"))) (hlk : meth.locks = false) :
    ∀ n : Nat, ∀ (kc ks : Nat) (g : Sg) (v1 : Option Nat) (H : Heap) (locs : List Loc) (ls : Array Slot), kc ≤ mc ∧ ks ≤ ms → w_N_lastSibling_2 z mi mc ms post n kc ks g v1 → WP D cA sz g H → va_S (oA sz) s.heap H locs → lv_has ls 2 [(1, va_rf v1)] → W p l e ({ frames := 0, cells := mc, slots := ms, locals := 0 } : Room) s m args below meth c H locs kc ks (MQ below (Qg D cA sz (pR post)) args s mc ms (oA sz)) (F0 m 2 ls []) := by
  obtain ⟨hx, hb, hml, hown, hts⟩ := id S
  intro n
  induction n with
  | zero =>
    intro kc ks g v1 H locs ls hk h hG hS hl
    exact h.elim
  | succ n ih =>
    intro kc ks g v1 H locs ls hk h hG hS hl
    refine q_aload_n hx hb d_N_lastSibling_2 rfl (lv_at hl 0 rfl) ?_
    obtain ⟨a12, e9, h⟩ := h
    subst e9
    have hl13 : lv_has ls 2 [(1, .ref a12)] := hl
    refine r_getR (f := 16) S hZ hG rfl h.1 (hts _ tw_105) (fun _ h9 => h9) d_N_lastSibling_3 (fun o14 e9 => ?_)
    replace h := h.2 o14 e9
    refine q_ifnull (tgt := 17) hx hb d_N_lastSibling_6 (by decide) (fun e9 => ?_) (fun a15 e9 => ?_)
    · replace h := h.1 e9
      subst e9
      refine lv_aload_n hx hb d_N_lastSibling_17 rfl (lv_at hl13 0 rfl) ?_
      exact r_aret (o := (some a12)) S hr (Or.inl ⟨_, rfl⟩) hlk hG hS h hk.1 hk.2 d_N_lastSibling_18
    · replace h := h.2 a15 e9
      subst e9
      refine lv_aload_n hx hb d_N_lastSibling_9 rfl (lv_at hl13 0 rfl) ?_
      refine r_getR (f := 16) S hZ hG rfl h.1 (hts _ tw_105) (fun _ h9 => h9) d_N_lastSibling_10 (fun o16 e9 => ?_)
      replace h := h.2 o16 e9
      refine q_astore_n (o := o16) (lv' := [(1, va_rf o16)]) hx hb d_N_lastSibling_13 rfl hl13 (by decide) (.n .e) (fun ls17 hl17 => ?_)
      refine lv_goto (tgt := 2) hx hb d_N_lastSibling_14 (by decide) ?_
      exact ih _ _ _ _ _ _ _ hk h hG hS (lv_sub hl17 [0] rfl)
def w_N_lastSibling (z mi mc ms : Nat) (post : Option Nat → Sg → Prop) (g : Sg) (this : Nat) : Prop := (∃ n18 : Nat, w_N_lastSibling_2 z mi mc ms post n18 0 0 g (some this))
set_option maxHeartbeats 4000000 in
set_option maxRecDepth 100000 in
theorem s_N_lastSibling {l : Launch} {D : va_G} {cA : Nat → ClassId} {sz z mi mc ms : Nat} {g : Sg} {post : Option Nat → Sg → Prop} {this : Nat} (h : w_N_lastSibling z mi mc ms post g this) : Met l y_N_lastSibling (Cond.code y_N_lastSibling b_N_lastSibling 2 (some (FieldType.object "WeaveCore$Node")) :: TBL) ({ frames := 0, cells := mc, slots := ms, locals := 0 } : Room) (Pg D cA sz z mi [.ref this] g) (Qg D cA sz (pR post)) mc ms (oA sz) := by
  refine m_code (lv := [(0, .ref this)]) (by decide +kernel) (Nat.le_of_ble_eq_true rfl) rfl ?_
  intro p e s m below meth c ls S hr hlk hnm hZ hG hS hl
  obtain ⟨hx, hb, hml, hown, hts⟩ := id S
  have hk : 0 ≤ mc ∧ 0 ≤ ms := ⟨Nat.zero_le _, Nat.zero_le _⟩
  refine lv_aload_n hx hb d_N_lastSibling_0 rfl (lv_at hl 0 rfl) ?_
  refine q_astore_n (o := (some this)) (lv' := [(1, .ref this), (0, .ref this)]) hx hb d_N_lastSibling_1 rfl hl (by decide) (.n (.c 0 rfl (by decide) rfl .e)) (fun ls11 hl11 => ?_)
  obtain ⟨n18, h⟩ := h
  exact s_N_lastSibling_2 S hZ hr hlk n18 _ _ _ _ _ _ _ hk h hG hS (lv_sub hl11 [0] rfl)
def w_N_lastBelow_7 (z mi mc ms : Nat) (post : Option Nat → Sg → Prop) : Nat → Nat → Nat → Sg → Option Nat → Option Nat → Prop
  | 0 => fun _ _ _ _ _ => False
  | n + 1 => fun kc ks g v1 v2 => (v2 = none → post v1 g) ∧ (∀ a14, v2 = some a14 → (isK g a14 [3] ∧ ∃ c17 c18 : Nat, kc + c17 ≤ mc ∧ ks + c18 ≤ ms ∧ w_N_lastSibling z mi c17 c18 (fun (o20 : Option Nat) (g19 : Sg) => ∃ a22, o20 = some a22 ∧ (hasR g19 a22 15 ∧ ∀ o24 : Option Nat, o24 = fR g19 15 a22 → w_N_lastBelow_7 z mi mc ms post n (kc + c17) (ks + c18) g19 (some a22) o24)) g a14))
set_option maxHeartbeats 4000000 in
set_option maxRecDepth 100000 in
theorem s_N_lastBelow_7 {p : Program} {l : Launch} {e : Env} {s : State} {m : MethodId} {args : Array Value} {below : List Frame} {meth : Method} {c : Code} {D : va_G} {cA : Nat → ClassId} {sz z mi mc ms : Nat} {post : Option Nat → Sg → Prop} (S : CallFix p m c b_N_lastBelow 3 s args TBL "WeaveCore$Node") (hZ : Ws D cA sz z mi s) (hr : meth.sig.returnType = (some (FieldType.object "WeaveCore$Node"))) (hlk : meth.locks = false) :
    ∀ n : Nat, ∀ (kc ks : Nat) (g : Sg) (v1 : Option Nat) (v2 : Option Nat) (H : Heap) (locs : List Loc) (ls : Array Slot), kc ≤ mc ∧ ks ≤ ms → w_N_lastBelow_7 z mi mc ms post n kc ks g v1 v2 → WP D cA sz g H → va_S (oA sz) s.heap H locs → lv_has ls 3 [(1, va_rf v1), (2, va_rf v2)] → W p l e ({ frames := 1, cells := mc, slots := ms, locals := 21 } : Room) s m args below meth c H locs kc ks (MQ below (Qg D cA sz (pR post)) args s mc ms (oA sz)) (F0 m 7 ls []) := by
  obtain ⟨hx, hb, hml, hown, hts⟩ := id S
  intro n
  induction n with
  | zero =>
    intro kc ks g v1 v2 H locs ls hk h hG hS hl
    exact h.elim
  | succ n ih =>
    intro kc ks g v1 v2 H locs ls hk h hG hS hl
    refine q_aload_n hx hb d_N_lastBelow_7 rfl (lv_at hl 1 rfl) ?_
    refine q_ifnull (tgt := 24) hx hb d_N_lastBelow_8 (by decide) (fun e9 => ?_) (fun a14 e9 => ?_)
    · replace h := h.1 e9
      subst e9
      have hl15 : lv_has ls 3 [(1, va_rf v1), (2, .null)] := hl
      refine q_aload_n hx hb d_N_lastBelow_24 rfl (lv_at hl15 0 rfl) ?_
      exact r_aret (o := v1) S hr (Or.inl ⟨_, rfl⟩) hlk hG hS h hk.1 hk.2 d_N_lastBelow_25
    · replace h := h.2 a14 e9
      subst e9
      have hl16 : lv_has ls 3 [(1, va_rf v1), (2, .ref a14)] := hl
      refine lv_aload_n hx hb d_N_lastBelow_11 rfl (lv_at hl16 1 rfl) ?_
      obtain ⟨h9, h⟩ := h
      obtain ⟨c17, c18, k1, k2, h⟩ := h
      obtain ⟨n9, h9⟩ := isK1 h9
      refine q_callR (run_V (As := []) (rest := []) S hZ hG hS (s_N_lastSibling h) tw_512 tw_509 tw_511 tp_21 tw_6 nk_N_lastSibling h9 (by decide) rfl ⟨Nat.le_of_ble_eq_true rfl, Nat.le_of_ble_eq_true rfl⟩ rfl hl16.1 rfl (by decide) d_N_lastBelow_12 ⟨k1, k2⟩) hS (fun o20 g19 H locs h26 hG hS => ?_)
      have hk := And.intro k1 k2
      replace h := h26
      refine q_astore_n (o := o20) (lv' := [(1, va_rf o20), (2, .ref a14)]) hx hb d_N_lastBelow_15 rfl hl16 (by decide) (.n (.k 1 rfl (by decide) (by decide) .e)) (fun ls21 hl21 => ?_)
      refine q_aload_n hx hb d_N_lastBelow_16 rfl (lv_at hl21 0 rfl) ?_
      obtain ⟨a22, e9, h⟩ := h
      subst e9
      have hl23 : lv_has ls21 3 [(1, .ref a22), (2, .ref a14)] := hl21
      refine r_getR (f := 15) S hZ hG rfl h.1 (hts _ tw_104) (fun _ h9 => h9) d_N_lastBelow_17 (fun o24 e9 => ?_)
      replace h := h.2 o24 e9
      refine q_astore_n (o := o24) (lv' := [(2, va_rf o24), (1, .ref a22)]) hx hb d_N_lastBelow_20 rfl hl23 (by decide) (.n (.c 0 rfl (by decide) rfl .e)) (fun ls25 hl25 => ?_)
      refine lv_goto (tgt := 7) hx hb d_N_lastBelow_21 (by decide) ?_
      exact ih _ _ _ _ _ _ _ _ hk h hG hS (lv_sub hl25 [1, 0] rfl)
def w_N_lastBelow (z mi mc ms : Nat) (post : Option Nat → Sg → Prop) (g : Sg) (this : Nat) : Prop := (hasR g this 15 ∧ ∀ o12 : Option Nat, o12 = fR g 15 this → (∃ n27 : Nat, w_N_lastBelow_7 z mi mc ms post n27 0 0 g (some this) o12))
set_option maxHeartbeats 4000000 in
set_option maxRecDepth 100000 in
theorem s_N_lastBelow {l : Launch} {D : va_G} {cA : Nat → ClassId} {sz z mi mc ms : Nat} {g : Sg} {post : Option Nat → Sg → Prop} {this : Nat} (h : w_N_lastBelow z mi mc ms post g this) : Met l y_N_lastBelow (Cond.code y_N_lastBelow b_N_lastBelow 3 (some (FieldType.object "WeaveCore$Node")) :: TBL) ({ frames := 1, cells := mc, slots := ms, locals := 21 } : Room) (Pg D cA sz z mi [.ref this] g) (Qg D cA sz (pR post)) mc ms (oA sz) := by
  refine m_code (lv := [(0, .ref this)]) (by decide +kernel) (Nat.le_of_ble_eq_true rfl) rfl ?_
  intro p e s m below meth c ls S hr hlk hnm hZ hG hS hl
  obtain ⟨hx, hb, hml, hown, hts⟩ := id S
  have hk : 0 ≤ mc ∧ 0 ≤ ms := ⟨Nat.zero_le _, Nat.zero_le _⟩
  refine lv_aload_n hx hb d_N_lastBelow_0 rfl (lv_at hl 0 rfl) ?_
  refine q_astore_n (o := (some this)) (lv' := [(1, .ref this), (0, .ref this)]) hx hb d_N_lastBelow_1 rfl hl (by decide) (.n (.c 0 rfl (by decide) rfl .e)) (fun ls11 hl11 => ?_)
  refine lv_aload_n hx hb d_N_lastBelow_2 rfl (lv_at hl11 1 rfl) ?_
  refine r_getR (f := 15) S hZ hG rfl h.1 (hts _ tw_104) (fun _ h9 => h9) d_N_lastBelow_3 (fun o12 e9 => ?_)
  replace h := h.2 o12 e9
  refine q_astore_n (o := o12) (lv' := [(2, va_rf o12), (1, .ref this), (0, .ref this)]) hx hb d_N_lastBelow_6 rfl hl11 (by decide) (.n (.c 0 rfl (by decide) rfl (.k 1 rfl (by decide) (by decide) .e))) (fun ls13 hl13 => ?_)
  obtain ⟨n27, h⟩ := h
  exact s_N_lastBelow_7 S hZ hr hlk n27 _ _ _ _ _ _ _ _ hk h hG hS (lv_sub hl13 [1, 0] rfl)
def w_N_takeNextSibling (z mi mc ms : Nat) (post : Sg → Prop) (g : Sg) (this : Nat) (p0 : Option Nat) : Prop := (isK g this [3] ∧ ∃ c11 c12 : Nat, 0 + c11 ≤ mc ∧ 0 + c12 ≤ ms ∧ w_N_lastBelow z mi c11 c12 (fun (o14 : Option Nat) (g13 : Sg) => ∃ a15, o14 = some a15 ∧ (isK g13 a15 [3] ∧ ∃ c16 c17 : Nat, (0 + c11) + c16 ≤ mc ∧ (0 + c12) + c17 ≤ ms ∧ w_N_putBehind z mi c16 c17 (fun (g18 : Sg) => (hasR g18 this 16 ∧ ∀ o19 : Option Nat, o19 = fR g18 16 this → ∃ a20, p0 = some a20 ∧ (hasR g18 a20 16 ∧ ∀ g22 : Sg, g22 = wR g18 16 a20 o19 → (hasR g22 this 16 ∧ ∀ g23 : Sg, g23 = wR g22 16 this (some a20) → post g23)))) g13 a15 p0)) g this)
set_option maxHeartbeats 4000000 in
set_option maxRecDepth 100000 in
theorem s_N_takeNextSibling {l : Launch} {D : va_G} {cA : Nat → ClassId} {sz z mi mc ms : Nat} {g : Sg} {post : Sg → Prop} {this : Nat} {p0 : Option Nat} (h : w_N_takeNextSibling z mi mc ms post g this p0) : Met l y_N_takeNextSibling (Cond.code y_N_takeNextSibling b_N_takeNextSibling 2 none :: TBL) ({ frames := 2, cells := mc, slots := ms, locals := 43 } : Room) (Pg D cA sz z mi [.ref this, va_rf p0] g) (Qg D cA sz (pV post)) mc ms (oA sz) := by
  refine m_code (lv := [(0, .ref this), (1, va_rf p0)]) (by decide +kernel) (by simp [lg_sl, rf_cat, cat_i, cat_r, cat_l]) (by simp [lv_args, rf_cat, cat_i, cat_r, cat_l]) ?_
  intro p e s m below meth c ls S hr hlk hnm hZ hG hS hl
  obtain ⟨hx, hb, hml, hown, hts⟩ := id S
  have hk : 0 ≤ mc ∧ 0 ≤ ms := ⟨Nat.zero_le _, Nat.zero_le _⟩
  refine lv_aload_n hx hb d_N_takeNextSibling_0 rfl (lv_at hl 0 rfl) ?_
  obtain ⟨h9, h⟩ := h
  obtain ⟨c11, c12, k1, k2, h⟩ := h
  obtain ⟨n9, h9⟩ := isK1 h9
  refine q_callR (run_V (As := []) (rest := []) S hZ hG hS (s_N_lastBelow h) tw_508 tw_505 tw_507 tp_20 tw_6 nk_N_lastBelow h9 (by decide) rfl ⟨Nat.le_of_ble_eq_true rfl, Nat.le_of_ble_eq_true rfl⟩ rfl hl.1 rfl (by decide) d_N_takeNextSibling_1 ⟨k1, k2⟩) hS (fun o14 g13 H locs h25 hG hS => ?_)
  have hk := And.intro k1 k2
  replace h := h25
  refine q_aload_n hx hb d_N_takeNextSibling_4 rfl (lv_at hl 1 rfl) ?_
  obtain ⟨a15, e9, h⟩ := h
  subst e9
  obtain ⟨h9, h⟩ := h
  obtain ⟨c16, c17, k1, k2, h⟩ := h
  obtain ⟨n9, h9⟩ := isK1 h9
  refine q_callV (run_V (As := [va_rf p0]) (rest := []) S hZ hG hS (s_N_putBehind h) tw_500 tw_497 tw_499 tp_18 tw_6 nk_N_putBehind h9 (by decide) rfl ⟨Nat.le_of_ble_eq_true rfl, Nat.le_of_ble_eq_true rfl⟩ rfl hl.1 rfl (by decide) d_N_takeNextSibling_5 ⟨k1, k2⟩) hS (fun g18 H locs h24 hG hS => ?_)
  have hk := And.intro k1 k2
  replace h := h24
  refine q_aload_n hx hb d_N_takeNextSibling_8 rfl (lv_at hl 1 rfl) ?_
  refine lv_aload_n hx hb d_N_takeNextSibling_9 rfl (lv_at hl 0 rfl) ?_
  refine r_getR (f := 16) S hZ hG rfl h.1 (hts _ tw_105) (fun _ h9 => h9) d_N_takeNextSibling_10 (fun o19 e9 => ?_)
  replace h := h.2 o19 e9
  obtain ⟨a20, e9, h⟩ := h
  subst e9
  have hl21 : lv_has ls 2 [(0, .ref this), (1, .ref a20)] := hl
  refine r_putR (f := 16) (v := o19) S hZ hG hS rfl h.1 (hts _ tw_105) (fun _ h9 => h9) (Or.inl rfl) d_N_takeNextSibling_13 (fun g22 H locs e9 hG hS => ?_)
  replace h := h.2 g22 e9
  refine lv_aload_n hx hb d_N_takeNextSibling_16 rfl (lv_at hl21 0 rfl) ?_
  refine lv_aload_n hx hb d_N_takeNextSibling_17 rfl (lv_at hl21 1 rfl) ?_
  refine r_putR (f := 16) (v := (some a20)) S hZ hG hS rfl h.1 (hts _ tw_105) (fun _ h9 => h9) (Or.inl rfl) d_N_takeNextSibling_18 (fun g23 H locs e9 hG hS => ?_)
  replace h := h.2 g23 e9
  exact r_vret S hr hlk hG hS h hk.1 hk.2 d_N_takeNextSibling_21
def w_N_hangRight (z mi mc ms : Nat) (post : Sg → Prop) (g : Sg) (this : Nat) (p0 : Option Nat) : Prop := (hasR g this 15 ∧ ∀ o11 : Option Nat, o11 = fR g 15 this → ∃ a12, p0 = some a12 ∧ (isK g a12 [3] ∧ ∃ c14 c15 : Nat, 0 + c14 ≤ mc ∧ 0 + c15 ≤ ms ∧ w_N_lastSmaller z mi c14 c15 (fun (o17 : Option Nat) (g16 : Sg) => (o17 = none → (isK g16 this [3] ∧ ∃ c22 c23 : Nat, (0 + c14) + c22 ≤ mc ∧ (0 + c15) + c23 ≤ ms ∧ w_N_putBehind z mi c22 c23 (fun (g24 : Sg) => (hasR g24 this 15 ∧ ∀ o25 : Option Nat, o25 = fR g24 15 this → (hasR g24 a12 16 ∧ ∀ g26 : Sg, g26 = wR g24 16 a12 o25 → (hasR g26 this 15 ∧ ∀ g27 : Sg, g27 = wR g26 15 this (some a12) → post g27)))) g16 this (some a12))) ∧ (∀ a19, o17 = some a19 → (isK g16 a19 [3] ∧ ∃ c29 c30 : Nat, (0 + c14) + c29 ≤ mc ∧ (0 + c15) + c30 ≤ ms ∧ w_N_takeNextSibling z mi c29 c30 (fun (g31 : Sg) => post g31) g16 a19 (some a12)))) g a12 o11))
set_option maxHeartbeats 4000000 in
set_option maxRecDepth 100000 in
theorem s_N_hangRight {l : Launch} {D : va_G} {cA : Nat → ClassId} {sz z mi mc ms : Nat} {g : Sg} {post : Sg → Prop} {this : Nat} {p0 : Option Nat} (h : w_N_hangRight z mi mc ms post g this p0) : Met l y_N_hangRight (Cond.code y_N_hangRight b_N_hangRight 3 none :: TBL) ({ frames := 3, cells := mc, slots := ms, locals := 64 } : Room) (Pg D cA sz z mi [.ref this, va_rf p0] g) (Qg D cA sz (pV post)) mc ms (oA sz) := by
  refine m_code (lv := [(0, .ref this), (1, va_rf p0)]) (by decide +kernel) (by simp [lg_sl, rf_cat, cat_i, cat_r, cat_l]) (by simp [lv_args, rf_cat, cat_i, cat_r, cat_l]) ?_
  intro p e s m below meth c ls S hr hlk hnm hZ hG hS hl
  obtain ⟨hx, hb, hml, hown, hts⟩ := id S
  have hk : 0 ≤ mc ∧ 0 ≤ ms := ⟨Nat.zero_le _, Nat.zero_le _⟩
  refine q_aload_n hx hb d_N_hangRight_0 rfl (lv_at hl 1 rfl) ?_
  refine lv_aload_n hx hb d_N_hangRight_1 rfl (lv_at hl 0 rfl) ?_
  refine r_getR (f := 15) S hZ hG rfl h.1 (hts _ tw_104) (fun _ h9 => h9) d_N_hangRight_2 (fun o11 e9 => ?_)
  replace h := h.2 o11 e9
  obtain ⟨a12, e9, h⟩ := h
  subst e9
  have hl13 : lv_has ls 3 [(0, .ref this), (1, .ref a12)] := hl
  obtain ⟨h9, h⟩ := h
  obtain ⟨c14, c15, k1, k2, h⟩ := h
  obtain ⟨n9, h9⟩ := isK1 h9
  refine q_callR (run_V (As := [va_rf o11]) (rest := []) S hZ hG hS (s_N_lastSmaller h) tw_490 tw_487 tw_489 tp_17 tw_6 nk_N_lastSmaller h9 (by decide) rfl ⟨Nat.le_of_ble_eq_true rfl, Nat.le_of_ble_eq_true rfl⟩ rfl hl.1 rfl (by decide) d_N_hangRight_5 ⟨k1, k2⟩) hS (fun o17 g16 H locs h33 hG hS => ?_)
  have hk := And.intro k1 k2
  replace h := h33
  refine q_astore_n (o := o17) (lv' := [(2, va_rf o17), (0, .ref this), (1, .ref a12)]) hx hb d_N_hangRight_8 rfl hl13 (by decide) (.n (.k 0 rfl (by decide) (by decide) (.c 1 rfl (by decide) rfl .e))) (fun ls18 hl18 => ?_)
  refine q_aload_n hx hb d_N_hangRight_9 rfl (lv_at hl18 0 rfl) ?_
  refine q_ifnonnull (tgt := 34) hx hb d_N_hangRight_10 (by decide) (fun a19 e9 => ?_) (fun e9 => ?_)
  · replace h := h.2 a19 e9
    subst e9
    have hl21 : lv_has ls18 3 [(2, .ref a19), (0, .ref this), (1, .ref a12)] := hl18
    refine lv_aload_n hx hb d_N_hangRight_34 rfl (lv_at hl21 0 rfl) ?_
    refine lv_aload_n hx hb d_N_hangRight_35 rfl (lv_at hl21 2 rfl) ?_
    obtain ⟨h9, h⟩ := h
    obtain ⟨c29, c30, k1, k2, h⟩ := h
    obtain ⟨n9, h9⟩ := isK1 h9
    refine q_callV (run_V (As := [va_rf (some a12)]) (rest := []) S hZ hG hS (s_N_takeNextSibling h) tw_504 tw_501 tw_503 tp_19 tw_6 nk_N_takeNextSibling h9 (by decide) rfl ⟨Nat.le_of_ble_eq_true rfl, Nat.le_of_ble_eq_true rfl⟩ rfl hl21.1 rfl (by decide) d_N_hangRight_36 ⟨k1, k2⟩) hS (fun g31 H locs h32 hG hS => ?_)
    have hk := And.intro k1 k2
    replace h := h32
    exact r_vret S hr hlk hG hS h hk.1 hk.2 d_N_hangRight_39
  · replace h := h.1 e9
    subst e9
    have hl20 : lv_has ls18 3 [(2, .null), (0, .ref this), (1, .ref a12)] := hl18
    refine lv_aload_n hx hb d_N_hangRight_13 rfl (lv_at hl20 1 rfl) ?_
    refine lv_aload_n hx hb d_N_hangRight_14 rfl (lv_at hl20 2 rfl) ?_
    obtain ⟨h9, h⟩ := h
    obtain ⟨c22, c23, k1, k2, h⟩ := h
    obtain ⟨n9, h9⟩ := isK1 h9
    refine q_callV (run_V (As := [va_rf (some a12)]) (rest := []) S hZ hG hS (s_N_putBehind h) tw_500 tw_497 tw_499 tp_18 tw_6 nk_N_putBehind h9 (by decide) rfl ⟨Nat.le_of_ble_eq_true rfl, Nat.le_of_ble_eq_true rfl⟩ rfl hl20.1 rfl (by decide) d_N_hangRight_15 ⟨k1, k2⟩) hS (fun g24 H locs h28 hG hS => ?_)
    have hk := And.intro k1 k2
    replace h := h28
    refine lv_aload_n hx hb d_N_hangRight_18 rfl (lv_at hl20 2 rfl) ?_
    refine lv_aload_n hx hb d_N_hangRight_19 rfl (lv_at hl20 1 rfl) ?_
    refine r_getR (f := 15) S hZ hG rfl h.1 (hts _ tw_104) (fun _ h9 => h9) d_N_hangRight_20 (fun o25 e9 => ?_)
    replace h := h.2 o25 e9
    refine r_putR (f := 16) (v := o25) S hZ hG hS rfl h.1 (hts _ tw_105) (fun _ h9 => h9) (Or.inl rfl) d_N_hangRight_23 (fun g26 H locs e9 hG hS => ?_)
    replace h := h.2 g26 e9
    refine lv_aload_n hx hb d_N_hangRight_26 rfl (lv_at hl20 1 rfl) ?_
    refine lv_aload_n hx hb d_N_hangRight_27 rfl (lv_at hl20 2 rfl) ?_
    refine r_putR (f := 15) (v := (some a12)) S hZ hG hS rfl h.1 (hts _ tw_104) (fun _ h9 => h9) (Or.inl rfl) d_N_hangRight_28 (fun g27 H locs e9 hG hS => ?_)
    replace h := h.2 g27 e9
    refine lv_goto (tgt := 39) hx hb d_N_hangRight_31 (by decide) ?_
    exact r_vret S hr hlk hG hS h hk.1 hk.2 d_N_hangRight_39
def w_N_firstBelow_2 (z mi mc ms : Nat) (post : Option Nat → Sg → Prop) : Nat → Nat → Nat → Sg → Option Nat → Prop
  | 0 => fun _ _ _ _ => False
  | n + 1 => fun kc ks g v1 => ∃ a12, v1 = some a12 ∧ (hasR g a12 14 ∧ ∀ o14 : Option Nat, o14 = fR g 14 a12 → (o14 = none → post (some a12) g) ∧ (∀ a15, o14 = some a15 → (hasR g a12 14 ∧ ∀ o16 : Option Nat, o16 = fR g 14 a12 → w_N_firstBelow_2 z mi mc ms post n kc ks g o16)))
set_option maxHeartbeats 4000000 in
set_option maxRecDepth 100000 in
theorem s_N_firstBelow_2 {p : Program} {l : Launch} {e : Env} {s : State} {m : MethodId} {args : Array Value} {below : List Frame} {meth : Method} {c : Code} {D : va_G} {cA : Nat → ClassId} {sz z mi mc ms : Nat} {post : Option Nat → Sg → Prop} (S : CallFix p m c b_N_firstBelow 2 s args TBL "WeaveCore$Node") (hZ : Ws D cA sz z mi s) (hr : meth.sig.returnType = (some (FieldType.object "WeaveCore$Node"))) (hlk : meth.locks = false) :
    ∀ n : Nat, ∀ (kc ks : Nat) (g : Sg) (v1 : Option Nat) (H : Heap) (locs : List Loc) (ls : Array Slot), kc ≤ mc ∧ ks ≤ ms → w_N_firstBelow_2 z mi mc ms post n kc ks g v1 → WP D cA sz g H → va_S (oA sz) s.heap H locs → lv_has ls 2 [(1, va_rf v1)] → W p l e ({ frames := 0, cells := mc, slots := ms, locals := 0 } : Room) s m args below meth c H locs kc ks (MQ below (Qg D cA sz (pR post)) args s mc ms (oA sz)) (F0 m 2 ls []) := by
  obtain ⟨hx, hb, hml, hown, hts⟩ := id S
  intro n
  induction n with
  | zero =>
    intro kc ks g v1 H locs ls hk h hG hS hl
    exact h.elim
  | succ n ih =>
    intro kc ks g v1 H locs ls hk h hG hS hl
    refine q_aload_n hx hb d_N_firstBelow_2 rfl (lv_at hl 0 rfl) ?_
    obtain ⟨a12, e9, h⟩ := h
    subst e9
    have hl13 : lv_has ls 2 [(1, .ref a12)] := hl
    refine r_getR (f := 14) S hZ hG rfl h.1 (hts _ tw_103) (fun _ h9 => h9) d_N_firstBelow_3 (fun o14 e9 => ?_)
    replace h := h.2 o14 e9
    refine q_ifnull (tgt := 17) hx hb d_N_firstBelow_6 (by decide) (fun e9 => ?_) (fun a15 e9 => ?_)
    · replace h := h.1 e9
      subst e9
      refine lv_aload_n hx hb d_N_firstBelow_17 rfl (lv_at hl13 0 rfl) ?_
      exact r_aret (o := (some a12)) S hr (Or.inl ⟨_, rfl⟩) hlk hG hS h hk.1 hk.2 d_N_firstBelow_18
    · replace h := h.2 a15 e9
      subst e9
      refine lv_aload_n hx hb d_N_firstBelow_9 rfl (lv_at hl13 0 rfl) ?_
      refine r_getR (f := 14) S hZ hG rfl h.1 (hts _ tw_103) (fun _ h9 => h9) d_N_firstBelow_10 (fun o16 e9 => ?_)
      replace h := h.2 o16 e9
      refine q_astore_n (o := o16) (lv' := [(1, va_rf o16)]) hx hb d_N_firstBelow_13 rfl hl13 (by decide) (.n .e) (fun ls17 hl17 => ?_)
      refine lv_goto (tgt := 2) hx hb d_N_firstBelow_14 (by decide) ?_
      exact ih _ _ _ _ _ _ _ hk h hG hS (lv_sub hl17 [0] rfl)
def w_N_firstBelow (z mi mc ms : Nat) (post : Option Nat → Sg → Prop) (g : Sg) (this : Nat) : Prop := (∃ n18 : Nat, w_N_firstBelow_2 z mi mc ms post n18 0 0 g (some this))
set_option maxHeartbeats 4000000 in
set_option maxRecDepth 100000 in
theorem s_N_firstBelow {l : Launch} {D : va_G} {cA : Nat → ClassId} {sz z mi mc ms : Nat} {g : Sg} {post : Option Nat → Sg → Prop} {this : Nat} (h : w_N_firstBelow z mi mc ms post g this) : Met l y_N_firstBelow (Cond.code y_N_firstBelow b_N_firstBelow 2 (some (FieldType.object "WeaveCore$Node")) :: TBL) ({ frames := 0, cells := mc, slots := ms, locals := 0 } : Room) (Pg D cA sz z mi [.ref this] g) (Qg D cA sz (pR post)) mc ms (oA sz) := by
  refine m_code (lv := [(0, .ref this)]) (by decide +kernel) (Nat.le_of_ble_eq_true rfl) rfl ?_
  intro p e s m below meth c ls S hr hlk hnm hZ hG hS hl
  obtain ⟨hx, hb, hml, hown, hts⟩ := id S
  have hk : 0 ≤ mc ∧ 0 ≤ ms := ⟨Nat.zero_le _, Nat.zero_le _⟩
  refine lv_aload_n hx hb d_N_firstBelow_0 rfl (lv_at hl 0 rfl) ?_
  refine q_astore_n (o := (some this)) (lv' := [(1, .ref this), (0, .ref this)]) hx hb d_N_firstBelow_1 rfl hl (by decide) (.n (.c 0 rfl (by decide) rfl .e)) (fun ls11 hl11 => ?_)
  obtain ⟨n18, h⟩ := h
  exact s_N_firstBelow_2 S hZ hr hlk n18 _ _ _ _ _ _ _ hk h hG hS (lv_sub hl11 [0] rfl)
def w_N_putBefore (z mi mc ms : Nat) (post : Sg → Prop) (g : Sg) (this : Nat) (p0 : Option Nat) : Prop := (hasR g this 17 ∧ ∀ o11 : Option Nat, o11 = fR g 17 this → (o11 = none → post g) ∧ (∀ a12, o11 = some a12 → (hasR g this 17 ∧ ∀ o13 : Option Nat, o13 = fR g 17 this → ∃ a14, o13 = some a14 ∧ (isK g a14 [3] ∧ ∃ c15 c16 : Nat, 0 + c15 ≤ mc ∧ 0 + c16 ≤ ms ∧ w_N_putBehind z mi c15 c16 (fun (g17 : Sg) => post g17) g a14 p0))))
set_option maxHeartbeats 4000000 in
set_option maxRecDepth 100000 in
theorem s_N_putBefore {l : Launch} {D : va_G} {cA : Nat → ClassId} {sz z mi mc ms : Nat} {g : Sg} {post : Sg → Prop} {this : Nat} {p0 : Option Nat} (h : w_N_putBefore z mi mc ms post g this p0) : Met l y_N_putBefore (Cond.code y_N_putBefore b_N_putBefore 2 none :: TBL) ({ frames := 1, cells := mc, slots := ms, locals := 21 } : Room) (Pg D cA sz z mi [.ref this, va_rf p0] g) (Qg D cA sz (pV post)) mc ms (oA sz) := by
  refine m_code (lv := [(0, .ref this), (1, va_rf p0)]) (by decide +kernel) (by simp [lg_sl, rf_cat, cat_i, cat_r, cat_l]) (by simp [lv_args, rf_cat, cat_i, cat_r, cat_l]) ?_
  intro p e s m below meth c ls S hr hlk hnm hZ hG hS hl
  obtain ⟨hx, hb, hml, hown, hts⟩ := id S
  have hk : 0 ≤ mc ∧ 0 ≤ ms := ⟨Nat.zero_le _, Nat.zero_le _⟩
  refine lv_aload_n hx hb d_N_putBefore_0 rfl (lv_at hl 0 rfl) ?_
  refine r_getR (f := 17) S hZ hG rfl h.1 (hts _ tw_106) (fun _ h9 => h9) d_N_putBefore_1 (fun o11 e9 => ?_)
  replace h := h.2 o11 e9
  refine q_ifnull (tgt := 15) hx hb d_N_putBefore_4 (by decide) (fun e9 => ?_) (fun a12 e9 => ?_)
  · replace h := h.1 e9
    subst e9
    exact r_vret S hr hlk hG hS h hk.1 hk.2 d_N_putBefore_15
  · replace h := h.2 a12 e9
    subst e9
    refine lv_aload_n hx hb d_N_putBefore_7 rfl (lv_at hl 0 rfl) ?_
    refine r_getR (f := 17) S hZ hG rfl h.1 (hts _ tw_106) (fun _ h9 => h9) d_N_putBefore_8 (fun o13 e9 => ?_)
    replace h := h.2 o13 e9
    refine q_aload_n hx hb d_N_putBefore_11 rfl (lv_at hl 1 rfl) ?_
    obtain ⟨a14, e9, h⟩ := h
    subst e9
    obtain ⟨h9, h⟩ := h
    obtain ⟨c15, c16, k1, k2, h⟩ := h
    obtain ⟨n9, h9⟩ := isK1 h9
    refine q_callV (run_V (As := [va_rf p0]) (rest := []) S hZ hG hS (s_N_putBehind h) tw_500 tw_497 tw_499 tp_18 tw_6 nk_N_putBehind h9 (by decide) rfl ⟨Nat.le_of_ble_eq_true rfl, Nat.le_of_ble_eq_true rfl⟩ rfl hl.1 rfl (by decide) d_N_putBefore_12 ⟨k1, k2⟩) hS (fun g17 H locs h18 hG hS => ?_)
    have hk := And.intro k1 k2
    replace h := h18
    exact r_vret S hr hlk hG hS h hk.1 hk.2 d_N_putBefore_15
def w_N_hangLeft (z mi mc ms : Nat) (post : Sg → Prop) (g : Sg) (this : Nat) (p0 : Option Nat) : Prop := (hasR g this 14 ∧ ∀ o11 : Option Nat, o11 = fR g 14 this → ∃ a12, p0 = some a12 ∧ (isK g a12 [3] ∧ ∃ c14 c15 : Nat, 0 + c14 ≤ mc ∧ 0 + c15 ≤ ms ∧ w_N_lastSmaller z mi c14 c15 (fun (o17 : Option Nat) (g16 : Sg) => (o17 = none → (isK g16 this [3] ∧ ∃ c22 c23 : Nat, (0 + c14) + c22 ≤ mc ∧ (0 + c15) + c23 ≤ ms ∧ w_N_firstBelow z mi c22 c23 (fun (o25 : Option Nat) (g24 : Sg) => ∃ a26, o25 = some a26 ∧ (isK g24 a26 [3] ∧ ∃ c27 c28 : Nat, ((0 + c14) + c22) + c27 ≤ mc ∧ ((0 + c15) + c23) + c28 ≤ ms ∧ w_N_putBefore z mi c27 c28 (fun (g29 : Sg) => (hasR g29 this 14 ∧ ∀ o30 : Option Nat, o30 = fR g29 14 this → (hasR g29 a12 16 ∧ ∀ g31 : Sg, g31 = wR g29 16 a12 o30 → (hasR g31 this 14 ∧ ∀ g32 : Sg, g32 = wR g31 14 this (some a12) → post g32)))) g24 a26 (some a12))) g16 this)) ∧ (∀ a19, o17 = some a19 → (isK g16 a19 [3] ∧ ∃ c35 c36 : Nat, (0 + c14) + c35 ≤ mc ∧ (0 + c15) + c36 ≤ ms ∧ w_N_takeNextSibling z mi c35 c36 (fun (g37 : Sg) => post g37) g16 a19 (some a12)))) g a12 o11))
set_option maxHeartbeats 4000000 in
set_option maxRecDepth 100000 in
theorem s_N_hangLeft {l : Launch} {D : va_G} {cA : Nat → ClassId} {sz z mi mc ms : Nat} {g : Sg} {post : Sg → Prop} {this : Nat} {p0 : Option Nat} (h : w_N_hangLeft z mi mc ms post g this p0) : Met l y_N_hangLeft (Cond.code y_N_hangLeft b_N_hangLeft 3 none :: TBL) ({ frames := 3, cells := mc, slots := ms, locals := 64 } : Room) (Pg D cA sz z mi [.ref this, va_rf p0] g) (Qg D cA sz (pV post)) mc ms (oA sz) := by
  refine m_code (lv := [(0, .ref this), (1, va_rf p0)]) (by decide +kernel) (by simp [lg_sl, rf_cat, cat_i, cat_r, cat_l]) (by simp [lv_args, rf_cat, cat_i, cat_r, cat_l]) ?_
  intro p e s m below meth c ls S hr hlk hnm hZ hG hS hl
  obtain ⟨hx, hb, hml, hown, hts⟩ := id S
  have hk : 0 ≤ mc ∧ 0 ≤ ms := ⟨Nat.zero_le _, Nat.zero_le _⟩
  refine q_aload_n hx hb d_N_hangLeft_0 rfl (lv_at hl 1 rfl) ?_
  refine lv_aload_n hx hb d_N_hangLeft_1 rfl (lv_at hl 0 rfl) ?_
  refine r_getR (f := 14) S hZ hG rfl h.1 (hts _ tw_103) (fun _ h9 => h9) d_N_hangLeft_2 (fun o11 e9 => ?_)
  replace h := h.2 o11 e9
  obtain ⟨a12, e9, h⟩ := h
  subst e9
  have hl13 : lv_has ls 3 [(0, .ref this), (1, .ref a12)] := hl
  obtain ⟨h9, h⟩ := h
  obtain ⟨c14, c15, k1, k2, h⟩ := h
  obtain ⟨n9, h9⟩ := isK1 h9
  refine q_callR (run_V (As := [va_rf o11]) (rest := []) S hZ hG hS (s_N_lastSmaller h) tw_490 tw_487 tw_489 tp_17 tw_6 nk_N_lastSmaller h9 (by decide) rfl ⟨Nat.le_of_ble_eq_true rfl, Nat.le_of_ble_eq_true rfl⟩ rfl hl.1 rfl (by decide) d_N_hangLeft_5 ⟨k1, k2⟩) hS (fun o17 g16 H locs h39 hG hS => ?_)
  have hk := And.intro k1 k2
  replace h := h39
  refine q_astore_n (o := o17) (lv' := [(2, va_rf o17), (0, .ref this), (1, .ref a12)]) hx hb d_N_hangLeft_8 rfl hl13 (by decide) (.n (.k 0 rfl (by decide) (by decide) (.c 1 rfl (by decide) rfl .e))) (fun ls18 hl18 => ?_)
  refine q_aload_n hx hb d_N_hangLeft_9 rfl (lv_at hl18 0 rfl) ?_
  refine q_ifnonnull (tgt := 37) hx hb d_N_hangLeft_10 (by decide) (fun a19 e9 => ?_) (fun e9 => ?_)
  · replace h := h.2 a19 e9
    subst e9
    have hl21 : lv_has ls18 3 [(2, .ref a19), (0, .ref this), (1, .ref a12)] := hl18
    refine lv_aload_n hx hb d_N_hangLeft_37 rfl (lv_at hl21 0 rfl) ?_
    refine lv_aload_n hx hb d_N_hangLeft_38 rfl (lv_at hl21 2 rfl) ?_
    obtain ⟨h9, h⟩ := h
    obtain ⟨c35, c36, k1, k2, h⟩ := h
    obtain ⟨n9, h9⟩ := isK1 h9
    refine q_callV (run_V (As := [va_rf (some a12)]) (rest := []) S hZ hG hS (s_N_takeNextSibling h) tw_504 tw_501 tw_503 tp_19 tw_6 nk_N_takeNextSibling h9 (by decide) rfl ⟨Nat.le_of_ble_eq_true rfl, Nat.le_of_ble_eq_true rfl⟩ rfl hl21.1 rfl (by decide) d_N_hangLeft_39 ⟨k1, k2⟩) hS (fun g37 H locs h38 hG hS => ?_)
    have hk := And.intro k1 k2
    replace h := h38
    exact r_vret S hr hlk hG hS h hk.1 hk.2 d_N_hangLeft_42
  · replace h := h.1 e9
    subst e9
    have hl20 : lv_has ls18 3 [(2, .null), (0, .ref this), (1, .ref a12)] := hl18
    refine lv_aload_n hx hb d_N_hangLeft_13 rfl (lv_at hl20 1 rfl) ?_
    obtain ⟨h9, h⟩ := h
    obtain ⟨c22, c23, k1, k2, h⟩ := h
    obtain ⟨n9, h9⟩ := isK1 h9
    refine q_callR (run_V (As := []) (rest := []) S hZ hG hS (s_N_firstBelow h) tw_520 tw_517 tw_519 tp_22 tw_6 nk_N_firstBelow h9 (by decide) rfl ⟨Nat.le_of_ble_eq_true rfl, Nat.le_of_ble_eq_true rfl⟩ rfl hl20.1 rfl (by decide) d_N_hangLeft_14 ⟨k1, k2⟩) hS (fun o25 g24 H locs h34 hG hS => ?_)
    have hk := And.intro k1 k2
    replace h := h34
    refine lv_aload_n hx hb d_N_hangLeft_17 rfl (lv_at hl20 2 rfl) ?_
    obtain ⟨a26, e9, h⟩ := h
    subst e9
    obtain ⟨h9, h⟩ := h
    obtain ⟨c27, c28, k1, k2, h⟩ := h
    obtain ⟨n9, h9⟩ := isK1 h9
    refine q_callV (run_V (As := [va_rf (some a12)]) (rest := []) S hZ hG hS (s_N_putBefore h) tw_524 tw_521 tw_523 tp_23 tw_6 nk_N_putBefore h9 (by decide) rfl ⟨Nat.le_of_ble_eq_true rfl, Nat.le_of_ble_eq_true rfl⟩ rfl hl20.1 rfl (by decide) d_N_hangLeft_18 ⟨k1, k2⟩) hS (fun g29 H locs h33 hG hS => ?_)
    have hk := And.intro k1 k2
    replace h := h33
    refine lv_aload_n hx hb d_N_hangLeft_21 rfl (lv_at hl20 2 rfl) ?_
    refine lv_aload_n hx hb d_N_hangLeft_22 rfl (lv_at hl20 1 rfl) ?_
    refine r_getR (f := 14) S hZ hG rfl h.1 (hts _ tw_103) (fun _ h9 => h9) d_N_hangLeft_23 (fun o30 e9 => ?_)
    replace h := h.2 o30 e9
    refine r_putR (f := 16) (v := o30) S hZ hG hS rfl h.1 (hts _ tw_105) (fun _ h9 => h9) (Or.inl rfl) d_N_hangLeft_26 (fun g31 H locs e9 hG hS => ?_)
    replace h := h.2 g31 e9
    refine lv_aload_n hx hb d_N_hangLeft_29 rfl (lv_at hl20 1 rfl) ?_
    refine lv_aload_n hx hb d_N_hangLeft_30 rfl (lv_at hl20 2 rfl) ?_
    refine r_putR (f := 14) (v := (some a12)) S hZ hG hS rfl h.1 (hts _ tw_103) (fun _ h9 => h9) (Or.inl rfl) d_N_hangLeft_31 (fun g32 H locs e9 hG hS => ?_)
    replace h := h.2 g32 e9
    refine lv_goto (tgt := 42) hx hb d_N_hangLeft_34 (by decide) ?_
    exact r_vret S hr hlk hG hS h hk.1 hk.2 d_N_hangLeft_42
def w_C_hang_20 (z mi mc ms : Nat) (post : Sg → Prop) : Nat → Nat → Sg → Option Nat → Option Nat → Option Nat → Prop := fun kc ks g v1 v2 s0 => (s0 = none → ∃ a22, v2 = some a22 ∧ (isK g a22 [3] ∧ ∃ c24 c25 : Nat, kc + c24 ≤ mc ∧ ks + c25 ≤ ms ∧ w_N_hangRight z mi c24 c25 (fun (g26 : Sg) => post g26) g a22 v1)) ∧ (∀ a19, s0 = some a19 → (isK g a19 [3] ∧ ∃ c28 c29 : Nat, kc + c28 ≤ mc ∧ ks + c29 ≤ ms ∧ w_N_hangLeft z mi c28 c29 (fun (g30 : Sg) => post g30) g a19 v1))
set_option maxHeartbeats 4000000 in
set_option maxRecDepth 100000 in
theorem s_C_hang_20 {p : Program} {l : Launch} {e : Env} {s : State} {m : MethodId} {args : Array Value} {below : List Frame} {meth : Method} {c : Code} {D : va_G} {cA : Nat → ClassId} {sz z mi mc ms : Nat} {post : Sg → Prop} (S : CallFix p m c b_C_hang 4 s args TBL "WeaveCore") (hZ : Ws D cA sz z mi s) (hr : meth.sig.returnType = none) (hlk : meth.locks = false) :
    ∀ (kc ks : Nat) (g : Sg) (v1 : Option Nat) (v2 : Option Nat) (s0 : Option Nat) (H : Heap) (locs : List Loc) (ls : Array Slot), kc ≤ mc ∧ ks ≤ ms → w_C_hang_20 z mi mc ms post kc ks g v1 v2 s0 → WP D cA sz g H → va_S (oA sz) s.heap H locs → lv_has ls 4 [(1, va_rf v1), (2, va_rf v2)] → W p l e ({ frames := 4, cells := mc, slots := ms, locals := 86 } : Room) s m args below meth c H locs kc ks (MQ below (Qg D cA sz (pV post)) args s mc ms (oA sz)) (F0 m 20 ls [va_rf s0]) := by
  obtain ⟨hx, hb, hml, hown, hts⟩ := id S
  intro kc ks g v1 v2 s0 H locs ls hk h hG hS hl
  refine q_astore_n (o := s0) (lv' := [(3, va_rf s0), (1, va_rf v1), (2, va_rf v2)]) hx hb d_C_hang_20 rfl hl (by decide) (.n (.k 0 rfl (by decide) (by decide) (.c 1 rfl (by decide) (rf_cat _) .e))) (fun ls18 hl18 => ?_)
  refine q_aload_n hx hb d_C_hang_21 rfl (lv_at hl18 0 rfl) ?_
  refine q_ifnonnull (tgt := 33) hx hb d_C_hang_22 (by decide) (fun a19 e9 => ?_) (fun e9 => ?_)
  · replace h := h.2 a19 e9
    subst e9
    have hl21 : lv_has ls18 4 [(3, .ref a19), (1, va_rf v1), (2, va_rf v2)] := hl18
    refine lv_aload_n hx hb d_C_hang_33 rfl (lv_at hl21 0 rfl) ?_
    refine q_aload_n hx hb d_C_hang_34 rfl (lv_at hl21 1 rfl) ?_
    obtain ⟨h9, h⟩ := h
    obtain ⟨c28, c29, k1, k2, h⟩ := h
    obtain ⟨n9, h9⟩ := isK1 h9
    refine q_callV (run_V (As := [va_rf v1]) (rest := []) S hZ hG hS (s_N_hangLeft h) tw_516 tw_513 tw_514 tw_515 tw_6 nk_N_hangLeft h9 (by decide) rfl ⟨Nat.le_of_ble_eq_true rfl, Nat.le_of_ble_eq_true rfl⟩ rfl hl21.1 rfl (by decide) d_C_hang_35 ⟨k1, k2⟩) hS (fun g30 H locs h31 hG hS => ?_)
    have hk := And.intro k1 k2
    replace h := h31
    exact r_vret S hr hlk hG hS h hk.1 hk.2 d_C_hang_38
  · replace h := h.1 e9
    subst e9
    have hl20 : lv_has ls18 4 [(3, .null), (1, va_rf v1), (2, va_rf v2)] := hl18
    refine q_aload_n hx hb d_C_hang_25 rfl (lv_at hl20 2 rfl) ?_
    refine q_aload_n hx hb d_C_hang_26 rfl (lv_at hl20 1 rfl) ?_
    obtain ⟨a22, e9, h⟩ := h
    subst e9
    have hl23 : lv_has ls18 4 [(3, .null), (1, va_rf v1), (2, .ref a22)] := hl20
    obtain ⟨h9, h⟩ := h
    obtain ⟨c24, c25, k1, k2, h⟩ := h
    obtain ⟨n9, h9⟩ := isK1 h9
    refine q_callV (run_V (As := [va_rf v1]) (rest := []) S hZ hG hS (s_N_hangRight h) tw_486 tw_483 tw_484 tw_485 tw_6 nk_N_hangRight h9 (by decide) rfl ⟨Nat.le_of_ble_eq_true rfl, Nat.le_of_ble_eq_true rfl⟩ rfl hl20.1 rfl (by decide) d_C_hang_27 ⟨k1, k2⟩) hS (fun g26 H locs h27 hG hS => ?_)
    have hk := And.intro k1 k2
    replace h := h27
    refine lv_goto (tgt := 38) hx hb d_C_hang_30 (by decide) ?_
    exact r_vret S hr hlk hG hS h hk.1 hk.2 d_C_hang_38
def w_C_hang (z mi mc ms : Nat) (post : Sg → Prop) (g : Sg) (this : Nat) (p0 : Option Nat) (p1 : Option Nat) : Prop := (hasR g this 25 ∧ ∀ o11 : Option Nat, o11 = fR g 25 this → ∃ a12, p1 = some a12 ∧ (isK g a12 [3] ∧ ∃ c14 c15 : Nat, 0 + c14 ≤ mc ∧ 0 + c15 ≤ ms ∧ w_N_hasRightIn z mi c14 c15 (fun (x17 : Int32) (g16 : Sg) => (x17 = 0 → w_C_hang_20 z mi mc ms post (0 + c14) (0 + c15) g16 p0 (some a12) none) ∧ (¬ x17 = 0 → (isK g16 this [4] ∧ ∃ c32 c33 : Nat, (0 + c14) + c32 ≤ mc ∧ (0 + c15) + c33 ≤ ms ∧ w_C_nextKnown z mi c32 c33 (fun (o35 : Option Nat) (g34 : Sg) => w_C_hang_20 z mi mc ms post ((0 + c14) + c32) ((0 + c15) + c33) g34 p0 (some a12) o35) g16 this (some a12)))) g a12 o11))
set_option maxHeartbeats 4000000 in
set_option maxRecDepth 100000 in
theorem s_C_hang {l : Launch} {D : va_G} {cA : Nat → ClassId} {sz z mi mc ms : Nat} {g : Sg} {post : Sg → Prop} {this : Nat} {p0 : Option Nat} {p1 : Option Nat} (h : w_C_hang z mi mc ms post g this p0 p1) : Met l y_C_hang (Cond.code y_C_hang b_C_hang 4 none :: TBL) ({ frames := 4, cells := mc, slots := ms, locals := 86 } : Room) (Pg D cA sz z mi [.ref this, va_rf p0, va_rf p1] g) (Qg D cA sz (pV post)) mc ms (oA sz) := by
  refine m_code (lv := [(0, .ref this), (1, va_rf p0), (2, va_rf p1)]) (by decide +kernel) (by simp [lg_sl, rf_cat, cat_i, cat_r, cat_l]) (by simp [lv_args, rf_cat, cat_i, cat_r, cat_l]) ?_
  intro p e s m below meth c ls S hr hlk hnm hZ hG hS hl
  obtain ⟨hx, hb, hml, hown, hts⟩ := id S
  have hk : 0 ≤ mc ∧ 0 ≤ ms := ⟨Nat.zero_le _, Nat.zero_le _⟩
  refine q_aload_n hx hb d_C_hang_0 rfl (lv_at hl 2 rfl) ?_
  refine lv_aload_n hx hb d_C_hang_1 rfl (lv_at hl 0 rfl) ?_
  refine r_getR (f := 25) S hZ hG rfl h.1 (hts _ tw_156) (fun _ h9 => h9) d_C_hang_2 (fun o11 e9 => ?_)
  replace h := h.2 o11 e9
  obtain ⟨a12, e9, h⟩ := h
  subst e9
  have hl13 : lv_has ls 4 [(0, .ref this), (1, va_rf p0), (2, .ref a12)] := hl
  obtain ⟨h9, h⟩ := h
  obtain ⟨c14, c15, k1, k2, h⟩ := h
  obtain ⟨n9, h9⟩ := isK1 h9
  refine q_callI (run_V (As := [va_rf o11]) (rest := []) S hZ hG hS (s_N_hasRightIn h) tw_477 tw_474 tw_475 tw_476 tw_6 nk_N_hasRightIn h9 (by decide) rfl ⟨Nat.le_of_ble_eq_true rfl, Nat.le_of_ble_eq_true rfl⟩ rfl hl.1 rfl (by decide) d_C_hang_5 ⟨k1, k2⟩) hS (fun x17 g16 H locs h37 hG hS => ?_)
  have hk := And.intro k1 k2
  replace h := h37
  refine lv_if_eq (tgt := 19) hx hb d_C_hang_8 (by decide) (fun c9 => ?_) (fun c9 => ?_)
  · replace h := h.1 c9
    refine lv_null hx hb d_C_hang_19 ?_
    exact s_C_hang_20 S hZ hr hlk _ _ _ _ _ _ _ _ _ hk h hG hS (lv_sub hl13 [1, 2] rfl)
  · replace h := h.2 c9
    refine lv_aload_n hx hb d_C_hang_11 rfl (lv_at hl13 0 rfl) ?_
    refine lv_aload_n hx hb d_C_hang_12 rfl (lv_at hl13 2 rfl) ?_
    obtain ⟨h9, h⟩ := h
    obtain ⟨c32, c33, k1, k2, h⟩ := h
    obtain ⟨n9, h9⟩ := isK1 h9
    refine q_callR (run_V (As := [va_rf (some a12)]) (rest := []) S hZ hG hS (s_C_nextKnown h) tw_481 tw_478 tw_480 tp_16 tw_1 nk_C_nextKnown h9 (by decide) rfl ⟨Nat.le_of_ble_eq_true rfl, Nat.le_of_ble_eq_true rfl⟩ rfl hl13.1 rfl (by decide) d_C_hang_13 ⟨k1, k2⟩) hS (fun o35 g34 H locs h36 hG hS => ?_)
    have hk := And.intro k1 k2
    replace h := h36
    refine lv_goto (tgt := 20) hx hb d_C_hang_16 (by decide) ?_
    exact s_C_hang_20 S hZ hr hlk _ _ _ _ _ _ _ _ _ hk h hG hS (lv_sub hl13 [1, 2] rfl)
def w_AS_newLength (z mi mc ms : Nat) (post : Int32 → Sg → Prop) (g : Sg) (p0 : Int32) (p1 : Int32) (p2 : Int32) : Prop := (∃ c11 c12 : Nat, 0 + c11 ≤ mc ∧ 0 + c12 ≤ ms ∧ w_MA_max z mi c11 c12 (fun (x14 : Int32) (g13 : Sg) => ((p0 + x14) ≤ (0 : Int32) → False) ∧ (¬ (p0 + x14) ≤ (0 : Int32) → ((2147483639 : Int32) < (p0 + x14) → False) ∧ (¬ (2147483639 : Int32) < (p0 + x14) → post (p0 + x14) g13))) g p1 p2)
set_option maxHeartbeats 4000000 in
set_option maxRecDepth 100000 in
theorem s_AS_newLength {l : Launch} {D : va_G} {cA : Nat → ClassId} {sz z mi mc ms : Nat} {g : Sg} {post : Int32 → Sg → Prop} {p0 : Int32} {p1 : Int32} {p2 : Int32} (h : w_AS_newLength z mi mc ms post g p0 p1 p2) : Met l y_AS_newLength (Cond.code y_AS_newLength b_AS_newLength 4 (some FieldType.int) :: TBL) ({ frames := 1, cells := mc, slots := ms, locals := 60 } : Room) (Pg D cA sz z mi [.int p0, .int p1, .int p2] g) (Qg D cA sz (pI post)) mc ms (oA sz) := by
  refine m_code (lv := [(0, .int p0), (1, .int p1), (2, .int p2)]) (by decide +kernel) (Nat.le_of_ble_eq_true rfl) rfl ?_
  intro p e s m below meth c ls S hr hlk hnm hZ hG hS hl
  obtain ⟨hx, hb, hml, hown, hts⟩ := id S
  have hk : 0 ≤ mc ∧ 0 ≤ ms := ⟨Nat.zero_le _, Nat.zero_le _⟩
  refine lv_iload_n hx hb d_AS_newLength_0 rfl (lv_at hl 0 rfl) ?_
  refine lv_iload_n hx hb d_AS_newLength_1 rfl (lv_at hl 1 rfl) ?_
  refine lv_iload_n hx hb d_AS_newLength_2 rfl (lv_at hl 2 rfl) ?_
  obtain ⟨c11, c12, k1, k2, h⟩ := h
  refine q_callI (run_S (As := [.int p1, .int p2]) (rest := [.int p0]) S hZ hG hS (s_MA_max h) tw_374 tw_548 tw_373 tw_19 nk_MA_max ⟨Nat.le_of_ble_eq_true rfl, Nat.le_of_ble_eq_true rfl⟩ rfl hl.1 rfl (Nat.le_of_ble_eq_true rfl) d_AS_newLength_3 ⟨k1, k2⟩) hS (fun x14 g13 H locs h16 hG hS => ?_)
  have hk := And.intro k1 k2
  replace h := h16
  refine lv_iadd hx hb d_AS_newLength_6 ?_
  refine q_istore_n (lv' := [(3, .int (p0 + x14)), (0, .int p0), (1, .int p1), (2, .int p2)]) hx hb d_AS_newLength_7 rfl hl (by decide) (.n (.k 0 rfl (by decide) (by decide) (.k 1 rfl (by decide) (by decide) (.c 2 rfl (by decide) rfl .e)))) (fun ls15 hl15 => ?_)
  refine lv_iconst (v := (0 : Int32)) hx hb d_AS_newLength_8 (by decide) ?_
  refine lv_iload_n hx hb d_AS_newLength_9 rfl (lv_at hl15 0 rfl) ?_
  refine lv_icmp_ge (tgt := 21) hx hb d_AS_newLength_10 (by decide) (fun c9 => ?_) (fun c9 => ?_)
  · replace h := h.1 c9
    refine lv_iload_n hx hb d_AS_newLength_21 rfl (lv_at hl15 1 rfl) ?_
    refine lv_iload_n hx hb d_AS_newLength_22 rfl (lv_at hl15 2 rfl) ?_
    exact h.elim
  · replace h := h.2 c9
    refine lv_iload_n hx hb d_AS_newLength_13 rfl (lv_at hl15 0 rfl) ?_
    refine lv_ldc hx hb hown (hts _ tw_549) d_AS_newLength_14 ?_
    refine lv_icmp_gt (tgt := 21) hx hb d_AS_newLength_16 (by decide) (fun c9 => ?_) (fun c9 => ?_)
    · replace h := h.1 c9
      refine lv_iload_n hx hb d_AS_newLength_21 rfl (lv_at hl15 1 rfl) ?_
      refine lv_iload_n hx hb d_AS_newLength_22 rfl (lv_at hl15 2 rfl) ?_
      exact h.elim
    · replace h := h.2 c9
      refine lv_iload_n hx hb d_AS_newLength_19 rfl (lv_at hl15 0 rfl) ?_
      exact r_iret (v := (p0 + x14)) S hr hlk hG hS h hk.1 hk.2 d_AS_newLength_20
def w_MA_min (z mi mc ms : Nat) (post : Int32 → Sg → Prop) (g : Sg) (p0 : Int32) (p1 : Int32) : Prop := (p1 < p0 → post p1 g) ∧ (¬ p1 < p0 → post p0 g)
set_option maxHeartbeats 4000000 in
set_option maxRecDepth 100000 in
theorem s_MA_min {l : Launch} {D : va_G} {cA : Nat → ClassId} {sz z mi mc ms : Nat} {g : Sg} {post : Int32 → Sg → Prop} {p0 : Int32} {p1 : Int32} (h : w_MA_min z mi mc ms post g p0 p1) : Met l y_MA_min (Cond.code y_MA_min b_MA_min 2 (some FieldType.int) :: TBL) ({ frames := 0, cells := mc, slots := ms, locals := 0 } : Room) (Pg D cA sz z mi [.int p0, .int p1] g) (Qg D cA sz (pI post)) mc ms (oA sz) := by
  refine m_code (lv := [(0, .int p0), (1, .int p1)]) (by decide +kernel) (Nat.le_of_ble_eq_true rfl) rfl ?_
  intro p e s m below meth c ls S hr hlk hnm hZ hG hS hl
  obtain ⟨hx, hb, hml, hown, hts⟩ := id S
  have hk : 0 ≤ mc ∧ 0 ≤ ms := ⟨Nat.zero_le _, Nat.zero_le _⟩
  refine lv_iload_n hx hb d_MA_min_0 rfl (lv_at hl 0 rfl) ?_
  refine lv_iload_n hx hb d_MA_min_1 rfl (lv_at hl 1 rfl) ?_
  refine lv_icmp_gt (tgt := 9) hx hb d_MA_min_2 (by decide) (fun c9 => ?_) (fun c9 => ?_)
  · replace h := h.1 c9
    refine lv_iload_n hx hb d_MA_min_9 rfl (lv_at hl 1 rfl) ?_
    exact r_iret (v := p1) S hr hlk hG hS h hk.1 hk.2 d_MA_min_10
  · replace h := h.2 c9
    refine lv_iload_n hx hb d_MA_min_5 rfl (lv_at hl 0 rfl) ?_
    refine lv_goto (tgt := 10) hx hb d_MA_min_6 (by decide) ?_
    exact r_iret (v := p0) S hr hlk hG hS h hk.1 hk.2 d_MA_min_10
def w_AR_copyO3_24 (z mi mc ms : Nat) (post : Option Nat → Sg → Prop) : Nat → Nat → Sg → Option Nat → Int32 → Option Nat → Prop := fun kc ks g v0 v1 s0 => ∃ a15, v0 = some a15 ∧ (∃ n17 : Nat, lenA g z a15 n17 ∧ ∀ x18 : Int32, x18 = nI n17 → (∃ c19 c20 : Nat, kc + c19 ≤ mc ∧ ks + c20 ≤ ms ∧ w_MA_min z mi c19 c20 (fun (x22 : Int32) (g21 : Sg) => ∃ a23, s0 = some a23 ∧ (∃ j26 j27 n28 : Nat, cpOK 106 g21 a15 a23 (0 : Int32) (0 : Int32) x22 j26 j27 n28 ∧ (∀ i : Nat, i < n28 → ∀ y : Nat, aR g21 a15 (j26 + i) = some y → isK g21 y [2, 3]) ∧ ∀ g25 : Sg, g25 = cR g21 a23 (va_cpy (aR g21 a15) (aR g21 a23) j26 j27 n28) → post (some a23) g25)) g x18 v1))
set_option maxHeartbeats 4000000 in
set_option maxRecDepth 100000 in
theorem s_AR_copyO3_24 {p : Program} {l : Launch} {e : Env} {s : State} {m : MethodId} {args : Array Value} {below : List Frame} {meth : Method} {c : Code} {D : va_G} {cA : Nat → ClassId} {sz z mi mc ms : Nat} {post : Option Nat → Sg → Prop} (S : CallFix p m c b_AR_copyO3 4 s args TBL "java/util/Arrays") (hZ : Ws D cA sz z mi s) (hr : meth.sig.returnType = (some (FieldType.array (FieldType.object "java/lang/Object")))) (hlk : meth.locks = false) :
    ∀ (kc ks : Nat) (g : Sg) (v0 : Option Nat) (v1 : Int32) (s0 : Option Nat) (H : Heap) (locs : List Loc) (ls : Array Slot), kc ≤ mc ∧ ks ≤ ms → w_AR_copyO3_24 z mi mc ms post kc ks g v0 v1 s0 → WP D cA sz g H → va_S (oA sz) s.heap H locs → lv_has ls 4 [(0, va_rf v0), (1, .int v1)] → W p l e ({ frames := 1, cells := mc, slots := ms, locals := 60 } : Room) s m args below meth c H locs kc ks (MQ below (Qg D cA sz (pR post)) args s mc ms (oA sz)) (F0 m 24 ls [va_rf s0]) := by
  obtain ⟨hx, hb, hml, hown, hts⟩ := id S
  intro kc ks g v0 v1 s0 H locs ls hk h hG hS hl
  refine q_astore_n (o := s0) (lv' := [(3, va_rf s0), (0, va_rf v0), (1, .int v1)]) hx hb d_AR_copyO3_24 rfl hl (by decide) (.n (.k 0 rfl (by decide) (by decide) (.k 1 rfl (by decide) (by decide) .e))) (fun ls14 hl14 => ?_)
  refine q_aload_n hx hb d_AR_copyO3_25 rfl (lv_at hl14 1 rfl) ?_
  refine lv_iconst (v := (0 : Int32)) hx hb d_AR_copyO3_26 (by decide) ?_
  refine q_aload_n hx hb d_AR_copyO3_27 rfl (lv_at hl14 0 rfl) ?_
  refine lv_iconst (v := (0 : Int32)) hx hb d_AR_copyO3_28 (by decide) ?_
  refine q_aload_n hx hb d_AR_copyO3_29 rfl (lv_at hl14 1 rfl) ?_
  obtain ⟨a15, e9, h⟩ := h
  subst e9
  have hl16 : lv_has ls14 4 [(3, va_rf s0), (0, .ref a15), (1, .int v1)] := hl14
  obtain ⟨n17, h9, h⟩ := h
  refine r_alen S hZ hG hS h9 d_AR_copyO3_30 (fun x18 e9 => ?_)
  replace h := h x18 e9
  refine lv_iload_n hx hb d_AR_copyO3_31 rfl (lv_at hl16 2 rfl) ?_
  obtain ⟨c19, c20, k1, k2, h⟩ := h
  refine q_callI (run_S (As := [.int x18, .int v1]) (rest := [.int ((0 : Int32)), va_rf s0, .int ((0 : Int32)), .ref a15]) S hZ hG hS (s_MA_min h) tw_580 tw_578 tw_579 tw_19 nk_MA_min ⟨Nat.le_of_ble_eq_true rfl, Nat.le_of_ble_eq_true rfl⟩ rfl hl16.1 rfl (by simp [rf_cat, cat_i, cat_r, cat_l]) d_AR_copyO3_32 ⟨k1, k2⟩) hS (fun x22 g21 H locs h29 hG hS => ?_)
  have hk := And.intro k1 k2
  replace h := h29
  obtain ⟨a23, e9, h⟩ := h
  subst e9
  have hl24 : lv_has ls14 4 [(3, .ref a23), (0, .ref a15), (1, .int v1)] := hl16
  obtain ⟨j26, j27, n28, h9, h8, h⟩ := h
  refine r_arrO S hl16.1 hZ hG hS tw_581 tw_583 tw_582 tw_23 h9 h8 (Nat.le_of_ble_eq_true rfl) (Nat.le_of_ble_eq_true rfl) d_AR_copyO3_35 (fun g25 H locs e9 hG hS => ?_)
  replace h := h g25 e9
  refine lv_aload_n hx hb d_AR_copyO3_38 rfl (lv_at hl24 0 rfl) ?_
  exact r_aret (o := (some a23)) S hr (Or.inr ⟨_, rfl⟩) hlk hG hS h hk.1 hk.2 d_AR_copyO3_39
def w_AR_copyO3 (z mi mc ms : Nat) (post : Option Nat → Sg → Prop) (g : Sg) (p0 : Option Nat) (p1 : Int32) (p2 : Option Nat) : Prop := (¬ p2 = (some mi) → False) ∧ (p2 = (some mi) → (∃ n13 : Nat, p1 = nI n13 ∧ n13 ≤ 1000000 ∧ 0 + 1 ≤ mc ∧ 0 + n13 ≤ ms ∧ ∀ a11 : Nat, hT g a11 = none → ∀ g12 : Sg, g12 = nO g a11 106 n13 → w_AR_copyO3_24 z mi mc ms post (0 + 1) (0 + n13) g12 p0 p1 (some a11)))
set_option maxHeartbeats 4000000 in
set_option maxRecDepth 100000 in
theorem s_AR_copyO3 {l : Launch} {D : va_G} {cA : Nat → ClassId} {sz z mi mc ms : Nat} {g : Sg} {post : Option Nat → Sg → Prop} {p0 : Option Nat} {p1 : Int32} {p2 : Option Nat} (h : w_AR_copyO3 z mi mc ms post g p0 p1 p2) : Met l y_AR_copyO3 (Cond.code y_AR_copyO3 b_AR_copyO3 4 (some (FieldType.array (FieldType.object "java/lang/Object"))) :: TBL) ({ frames := 1, cells := mc, slots := ms, locals := 60 } : Room) (Pg D cA sz z mi [va_rf p0, .int p1, va_rf p2] g) (Qg D cA sz (pR post)) mc ms (oA sz) := by
  refine m_code (lv := [(0, va_rf p0), (1, .int p1), (2, va_rf p2)]) (by decide +kernel) (by simp [lg_sl, rf_cat, cat_i, cat_r, cat_l]) (by simp [lv_args, rf_cat, cat_i, cat_r, cat_l]) ?_
  intro p e s m below meth c ls S hr hlk hnm hZ hG hS hl
  obtain ⟨hx, hb, hml, hown, hts⟩ := id S
  have hk : 0 ≤ mc ∧ 0 ≤ ms := ⟨Nat.zero_le _, Nat.zero_le _⟩
  refine q_aload_n hx hb d_AR_copyO3_0 rfl (lv_at hl 2 rfl) ?_
  refine va_ldcM hx hb hown (hts _ tw_575) hZ.2.2.2.2.2.2.2.2.2.2.2.2.2.2.2.2.2.1 d_AR_copyO3_1 ?_
  refine lv_acmp_ne (rx := p2) (ry := (some mi)) (tgt := 13) hx hb d_AR_copyO3_3 (by decide) (fun c9 => ?_) (fun c9 => ?_)
  · replace h := h.1 c9
    refine q_aload_n hx hb d_AR_copyO3_13 rfl (lv_at hl 2 rfl) ?_
    exact h.elim
  · replace h := h.2 c9
    refine lv_iload_n hx hb d_AR_copyO3_6 rfl (lv_at hl 1 rfl) ?_
    obtain ⟨n13, e9, n9, h⟩ := h
    refine r_newq (k := 106) (n := n13) S hZ hG hS (hts _ tw_577) hZ.2.2.2.2.2.2.2.2.2.2.2.2.2.2.2.1 (by decide) rfl e9 n9 h.1 h.2.1 d_AR_copyO3_7 (fun a11 g12 H f9 e9 hG hS => ?_)
    have hk := And.intro h.1 h.2.1
    replace h := h.2.2 a11 f9 g12 e9
    refine lv_goto (tgt := 24) hx hb d_AR_copyO3_10 (by decide) ?_
    exact s_AR_copyO3_24 S hZ hr hlk _ _ _ _ _ _ _ _ _ hk h hG hS (lv_sub hl [0, 1] rfl)
def w_AR_copyO2 (z mi mc ms : Nat) (post : Option Nat → Sg → Prop) (g : Sg) (p0 : Option Nat) (p1 : Int32) : Prop := ∃ a11, p0 = some a11 ∧ ((∃ n13 : Nat, hT g a11 = some (106, n13)) ∧ (∃ c14 c15 : Nat, 0 + c14 ≤ mc ∧ 0 + c15 ≤ ms ∧ w_AR_copyO3 z mi c14 c15 (fun (o17 : Option Nat) (g16 : Sg) => post o17 g16) g (some a11) p1 (some mi)))
set_option maxHeartbeats 4000000 in
set_option maxRecDepth 100000 in
theorem s_AR_copyO2 {l : Launch} {D : va_G} {cA : Nat → ClassId} {sz z mi mc ms : Nat} {g : Sg} {post : Option Nat → Sg → Prop} {p0 : Option Nat} {p1 : Int32} (h : w_AR_copyO2 z mi mc ms post g p0 p1) : Met l y_AR_copyO2 (Cond.code y_AR_copyO2 b_AR_copyO2 2 (some (FieldType.array (FieldType.object "java/lang/Object"))) :: TBL) ({ frames := 2, cells := mc, slots := ms, locals := 83 } : Room) (Pg D cA sz z mi [va_rf p0, .int p1] g) (Qg D cA sz (pR post)) mc ms (oA sz) := by
  refine m_code (lv := [(0, va_rf p0), (1, .int p1)]) (by decide +kernel) (by simp [lg_sl, rf_cat, cat_i, cat_r, cat_l]) (by simp [lv_args, rf_cat, cat_i, cat_r, cat_l]) ?_
  intro p e s m below meth c ls S hr hlk hnm hZ hG hS hl
  obtain ⟨hx, hb, hml, hown, hts⟩ := id S
  have hk : 0 ≤ mc ∧ 0 ≤ ms := ⟨Nat.zero_le _, Nat.zero_le _⟩
  refine q_aload_n hx hb d_AR_copyO2_0 rfl (lv_at hl 0 rfl) ?_
  refine lv_iload_n hx hb d_AR_copyO2_1 rfl (lv_at hl 1 rfl) ?_
  refine q_aload_n hx hb d_AR_copyO2_2 rfl (lv_at hl 0 rfl) ?_
  obtain ⟨a11, e9, h⟩ := h
  subst e9
  have hl12 : lv_has ls 2 [(0, .ref a11), (1, .int p1)] := hl
  obtain ⟨⟨n13, h9⟩, h⟩ := h
  refine r_getC S hl.1 hZ hG tw_556 tw_1063 tw_557 tw_571 h9 (Nat.le_of_ble_eq_true rfl) (Nat.le_of_ble_eq_true rfl) d_AR_copyO2_3 ?_
  obtain ⟨c14, c15, k1, k2, h⟩ := h
  refine q_callR (run_S (As := [va_rf (some a11), .int p1, va_rf (some mi)]) (rest := []) S hZ hG hS (s_AR_copyO3 h) tw_574 tw_572 tw_573 tw_18 nk_AR_copyO3 ⟨Nat.le_of_ble_eq_true rfl, Nat.le_of_ble_eq_true rfl⟩ rfl hl12.1 rfl (by decide) d_AR_copyO2_6 ⟨k1, k2⟩) hS (fun o17 g16 H locs h18 hG hS => ?_)
  have hk := And.intro k1 k2
  replace h := h18
  exact r_aret (o := o17) S hr (Or.inr ⟨_, rfl⟩) hlk hG hS h hk.1 hk.2 d_AR_copyO2_9
def w_AL_grow1_20 (z mi mc ms : Nat) (post : Option Nat → Sg → Prop) : Nat → Nat → Sg → Nat → Int32 → Int32 → Prop := fun kc ks g this v1 v2 => (∃ c16 c17 : Nat, kc + c16 ≤ mc ∧ ks + c17 ≤ ms ∧ w_AS_newLength z mi c16 c17 (fun (x19 : Int32) (g18 : Sg) => (hasR g18 this 2 ∧ ∀ o21 : Option Nat, o21 = fR g18 2 this → (∃ c22 c23 : Nat, (kc + c16) + c22 ≤ mc ∧ (ks + c17) + c23 ≤ ms ∧ w_AR_copyO2 z mi c22 c23 (fun (o25 : Option Nat) (g24 : Sg) => (hasR g24 this 2 ∧ ∀ g26 : Sg, g26 = wR g24 2 this o25 → post o25 g26)) g18 o21 x19))) g v2 (v1 - v2) (v2 >>> ((1 : Int32) &&& 31)))
set_option maxHeartbeats 4000000 in
set_option maxRecDepth 100000 in
theorem s_AL_grow1_20 {p : Program} {l : Launch} {e : Env} {s : State} {m : MethodId} {args : Array Value} {below : List Frame} {meth : Method} {c : Code} {D : va_G} {cA : Nat → ClassId} {sz z mi mc ms : Nat} {post : Option Nat → Sg → Prop} (S : CallFix p m c b_AL_grow1 4 s args TBL "java/util/ArrayList") (hZ : Ws D cA sz z mi s) (hr : meth.sig.returnType = (some (FieldType.array (FieldType.object "java/lang/Object")))) (hlk : meth.locks = false) :
    ∀ (kc ks : Nat) (g : Sg) (this : Nat) (v1 : Int32) (v2 : Int32) (H : Heap) (locs : List Loc) (ls : Array Slot), kc ≤ mc ∧ ks ≤ ms → w_AL_grow1_20 z mi mc ms post kc ks g this v1 v2 → WP D cA sz g H → va_S (oA sz) s.heap H locs → lv_has ls 4 [(0, .ref this), (1, .int v1), (2, .int v2)] → W p l e ({ frames := 3, cells := mc, slots := ms, locals := 104 } : Room) s m args below meth c H locs kc ks (MQ below (Qg D cA sz (pR post)) args s mc ms (oA sz)) (F0 m 20 ls []) := by
  obtain ⟨hx, hb, hml, hown, hts⟩ := id S
  intro kc ks g this v1 v2 H locs ls hk h hG hS hl
  refine lv_iload_n hx hb d_AL_grow1_20 rfl (lv_at hl 2 rfl) ?_
  refine lv_iload_n hx hb d_AL_grow1_21 rfl (lv_at hl 1 rfl) ?_
  refine lv_iload_n hx hb d_AL_grow1_22 rfl (lv_at hl 2 rfl) ?_
  refine lv_isub hx hb d_AL_grow1_23 ?_
  refine lv_iload_n hx hb d_AL_grow1_24 rfl (lv_at hl 2 rfl) ?_
  refine lv_iconst (v := (1 : Int32)) hx hb d_AL_grow1_25 (by decide) ?_
  refine lv_ishr hx hb d_AL_grow1_26 ?_
  obtain ⟨c16, c17, k1, k2, h⟩ := h
  refine q_callI (run_S (As := [.int v2, .int (v1 - v2), .int (v2 >>> ((1 : Int32) &&& 31))]) (rest := []) S hZ hG hS (s_AS_newLength h) tw_547 tw_545 tw_546 tw_22 nk_AS_newLength ⟨Nat.le_of_ble_eq_true rfl, Nat.le_of_ble_eq_true rfl⟩ rfl hl.1 rfl (by decide) d_AL_grow1_27 ⟨k1, k2⟩) hS (fun x19 g18 H locs h28 hG hS => ?_)
  have hk := And.intro k1 k2
  replace h := h28
  refine q_istore_n (lv' := [(3, .int x19), (0, .ref this), (1, .int v1), (2, .int v2)]) hx hb d_AL_grow1_30 rfl hl (by decide) (.n (.k 0 rfl (by decide) (by decide) (.k 1 rfl (by decide) (by decide) (.c 2 rfl (by decide) rfl .e)))) (fun ls20 hl20 => ?_)
  refine lv_aload_n hx hb d_AL_grow1_31 rfl (lv_at hl20 1 rfl) ?_
  refine lv_aload_n hx hb d_AL_grow1_32 rfl (lv_at hl20 1 rfl) ?_
  refine r_getR (f := 2) S hZ hG rfl h.1 (hts _ tw_49) (fun _ h9 => h9) d_AL_grow1_33 (fun o21 e9 => ?_)
  replace h := h.2 o21 e9
  refine lv_iload_n hx hb d_AL_grow1_36 rfl (lv_at hl20 0 rfl) ?_
  obtain ⟨c22, c23, k1, k2, h⟩ := h
  refine q_callR (run_S (As := [va_rf o21, .int x19]) (rest := [.ref this]) S hZ hG hS (s_AR_copyO2 h) tw_555 tw_553 tw_554 tw_18 nk_AR_copyO2 ⟨Nat.le_of_ble_eq_true rfl, Nat.le_of_ble_eq_true rfl⟩ rfl hl20.1 rfl (Nat.le_of_ble_eq_true rfl) d_AL_grow1_37 ⟨k1, k2⟩) hS (fun o25 g24 H locs h27 hG hS => ?_)
  have hk := And.intro k1 k2
  replace h := h27
  refine lv_dup_x1 hx hb d_AL_grow1_40 (rf_cat _) rfl ?_
  refine r_putR (f := 2) (v := o25) S hZ hG hS rfl h.1 (hts _ tw_49) (fun _ h9 => h9) (Or.inl rfl) d_AL_grow1_41 (fun g26 H locs e9 hG hS => ?_)
  replace h := h.2 g26 e9
  exact r_aret (o := o25) S hr (Or.inr ⟨_, rfl⟩) hlk hG hS h hk.1 hk.2 d_AL_grow1_44
def w_AL_grow1 (z mi mc ms : Nat) (post : Option Nat → Sg → Prop) (g : Sg) (this : Nat) (p0 : Int32) : Prop := (hasR g this 2 ∧ ∀ o11 : Option Nat, o11 = fR g 2 this → ∃ a12, o11 = some a12 ∧ (∃ n13 : Nat, lenA g z a12 n13 ∧ ∀ x14 : Int32, x14 = nI n13 → (0 < x14 → w_AL_grow1_20 z mi mc ms post 0 0 g this p0 x14) ∧ (¬ 0 < x14 → (hasR g this 2 ∧ ∀ o29 : Option Nat, o29 = fR g 2 this → (o29 = (some z) → (∃ c30 c31 : Nat, 0 + c30 ≤ mc ∧ 0 + c31 ≤ ms ∧ w_MA_max z mi c30 c31 (fun (x33 : Int32) (g32 : Sg) => (∃ n36 : Nat, x33 = nI n36 ∧ n36 ≤ 1000000 ∧ (0 + c30) + 1 ≤ mc ∧ (0 + c31) + n36 ≤ ms ∧ ∀ a34 : Nat, hT g32 a34 = none → ∀ g35 : Sg, g35 = nO g32 a34 106 n36 → (hasR g35 this 2 ∧ ∀ g37 : Sg, g37 = wR g35 2 this (some a34) → post (some a34) g37))) g (10 : Int32) p0)) ∧ (¬ o29 = (some z) → w_AL_grow1_20 z mi mc ms post 0 0 g this p0 x14)))))
set_option maxHeartbeats 4000000 in
set_option maxRecDepth 100000 in
theorem s_AL_grow1 {l : Launch} {D : va_G} {cA : Nat → ClassId} {sz z mi mc ms : Nat} {g : Sg} {post : Option Nat → Sg → Prop} {this : Nat} {p0 : Int32} (h : w_AL_grow1 z mi mc ms post g this p0) : Met l y_AL_grow1 (Cond.code y_AL_grow1 b_AL_grow1 4 (some (FieldType.array (FieldType.object "java/lang/Object"))) :: TBL) ({ frames := 3, cells := mc, slots := ms, locals := 104 } : Room) (Pg D cA sz z mi [.ref this, .int p0] g) (Qg D cA sz (pR post)) mc ms (oA sz) := by
  refine m_code (lv := [(0, .ref this), (1, .int p0)]) (by decide +kernel) (Nat.le_of_ble_eq_true rfl) rfl ?_
  intro p e s m below meth c ls S hr hlk hnm hZ hG hS hl
  obtain ⟨hx, hb, hml, hown, hts⟩ := id S
  have hk : 0 ≤ mc ∧ 0 ≤ ms := ⟨Nat.zero_le _, Nat.zero_le _⟩
  refine lv_aload_n hx hb d_AL_grow1_0 rfl (lv_at hl 0 rfl) ?_
  refine r_getR (f := 2) S hZ hG rfl h.1 (hts _ tw_49) (fun _ h9 => h9) d_AL_grow1_1 (fun o11 e9 => ?_)
  replace h := h.2 o11 e9
  obtain ⟨a12, e9, h⟩ := h
  subst e9
  obtain ⟨n13, h9, h⟩ := h
  refine r_alen S hZ hG hS h9 d_AL_grow1_4 (fun x14 e9 => ?_)
  replace h := h x14 e9
  refine q_istore_n (lv' := [(2, .int x14), (0, .ref this), (1, .int p0)]) hx hb d_AL_grow1_5 rfl hl (by decide) (.n (.k 0 rfl (by decide) (by decide) (.c 1 rfl (by decide) rfl .e))) (fun ls15 hl15 => ?_)
  refine lv_iload_n hx hb d_AL_grow1_6 rfl (lv_at hl15 0 rfl) ?_
  refine lv_if_gt (tgt := 20) hx hb d_AL_grow1_7 (by decide) (fun c9 => ?_) (fun c9 => ?_)
  · replace h := h.1 c9
    exact s_AL_grow1_20 S hZ hr hlk _ _ _ _ _ _ _ _ _ hk h hG hS (lv_sub hl15 [1, 2, 0] rfl)
  · replace h := h.2 c9
    refine lv_aload_n hx hb d_AL_grow1_10 rfl (lv_at hl15 1 rfl) ?_
    refine r_getR (f := 2) S hZ hG rfl h.1 (hts _ tw_49) (fun _ h9 => h9) d_AL_grow1_11 (fun o29 e9 => ?_)
    replace h := h.2 o29 e9
    refine va_gets hx hb hZ.2.2.2.2.2.1 hS hown (hts _ tw_47) (fun _ h9 => h9) d_AL_grow1_14 ?_
    refine lv_acmp_eq (rx := o29) (ry := (some z)) (tgt := 45) hx hb d_AL_grow1_17 (by decide) (fun c9 => ?_) (fun c9 => ?_)
    · replace h := h.1 c9
      refine lv_aload_n hx hb d_AL_grow1_45 rfl (lv_at hl15 1 rfl) ?_
      refine lv_bipush (v := (10 : Int32)) hx hb d_AL_grow1_46 (by decide) ?_
      refine lv_iload_n hx hb d_AL_grow1_48 rfl (lv_at hl15 2 rfl) ?_
      obtain ⟨c30, c31, k1, k2, h⟩ := h
      refine q_callI (run_S (As := [.int ((10 : Int32)), .int p0]) (rest := [.ref this]) S hZ hG hS (s_MA_max h) tw_374 tw_584 tw_373 tw_19 nk_MA_max ⟨Nat.le_of_ble_eq_true rfl, Nat.le_of_ble_eq_true rfl⟩ rfl hl15.1 rfl (Nat.le_of_ble_eq_true rfl) d_AL_grow1_49 ⟨k1, k2⟩) hS (fun x33 g32 H locs h38 hG hS => ?_)
      have hk := And.intro k1 k2
      replace h := h38
      obtain ⟨n36, e9, n9, h⟩ := h
      refine r_newq (k := 106) (n := n36) S hZ hG hS (hts _ tw_585) hZ.2.2.2.2.2.2.2.2.2.2.2.2.2.2.2.1 (by decide) rfl e9 n9 h.1 h.2.1 d_AL_grow1_52 (fun a34 g35 H f9 e9 hG hS => ?_)
      have hk := And.intro h.1 h.2.1
      replace h := h.2.2 a34 f9 g35 e9
      refine lv_dup_x1 hx hb d_AL_grow1_55 rfl rfl ?_
      refine r_putR (f := 2) (v := (some a34)) S hZ hG hS rfl h.1 (hts _ tw_49) (fun _ h9 => h9) (Or.inl rfl) d_AL_grow1_56 (fun g37 H locs e9 hG hS => ?_)
      replace h := h.2 g37 e9
      exact r_aret (o := (some a34)) S hr (Or.inr ⟨_, rfl⟩) hlk hG hS h hk.1 hk.2 d_AL_grow1_59
    · replace h := h.2 c9
      exact s_AL_grow1_20 S hZ hr hlk _ _ _ _ _ _ _ _ _ hk h hG hS (lv_sub hl15 [1, 2, 0] rfl)
def w_AL_grow0 (z mi mc ms : Nat) (post : Option Nat → Sg → Prop) (g : Sg) (this : Nat) : Prop := (hasI g this 3 ∧ ∀ x11 : Int32, x11 = fI g 3 this → (isK g this [0] ∧ ∃ c12 c13 : Nat, 0 + c12 ≤ mc ∧ 0 + c13 ≤ ms ∧ w_AL_grow1 z mi c12 c13 (fun (o15 : Option Nat) (g14 : Sg) => post o15 g14) g this (x11 + (1 : Int32))))
set_option maxHeartbeats 4000000 in
set_option maxRecDepth 100000 in
theorem s_AL_grow0 {l : Launch} {D : va_G} {cA : Nat → ClassId} {sz z mi mc ms : Nat} {g : Sg} {post : Option Nat → Sg → Prop} {this : Nat} (h : w_AL_grow0 z mi mc ms post g this) : Met l y_AL_grow0 (Cond.code y_AL_grow0 b_AL_grow0 1 (some (FieldType.array (FieldType.object "java/lang/Object"))) :: TBL) ({ frames := 4, cells := mc, slots := ms, locals := 127 } : Room) (Pg D cA sz z mi [.ref this] g) (Qg D cA sz (pR post)) mc ms (oA sz) := by
  refine m_code (lv := [(0, .ref this)]) (by decide +kernel) (Nat.le_of_ble_eq_true rfl) rfl ?_
  intro p e s m below meth c ls S hr hlk hnm hZ hG hS hl
  obtain ⟨hx, hb, hml, hown, hts⟩ := id S
  have hk : 0 ≤ mc ∧ 0 ≤ ms := ⟨Nat.zero_le _, Nat.zero_le _⟩
  refine lv_aload_n hx hb d_AL_grow0_0 rfl (lv_at hl 0 rfl) ?_
  refine lv_aload_n hx hb d_AL_grow0_1 rfl (lv_at hl 0 rfl) ?_
  refine r_getI (f := 3) S hZ hG rfl h.1 (hts _ tw_50) (fun _ h9 => h9) d_AL_grow0_2 (fun x11 e9 => ?_)
  replace h := h.2 x11 e9
  refine lv_iconst (v := (1 : Int32)) hx hb d_AL_grow0_5 (by decide) ?_
  refine lv_iadd hx hb d_AL_grow0_6 ?_
  obtain ⟨h9, h⟩ := h
  obtain ⟨c12, c13, k1, k2, h⟩ := h
  obtain ⟨n9, h9⟩ := isK1 h9
  refine q_callR (run_V (As := [.int (x11 + (1 : Int32))]) (rest := []) S hZ hG hS (s_AL_grow1 h) tw_544 tw_541 tw_543 tp_27 tw_4 nk_AL_grow1 h9 (by decide) rfl ⟨Nat.le_of_ble_eq_true rfl, Nat.le_of_ble_eq_true rfl⟩ rfl hl.1 rfl (by decide) d_AL_grow0_7 ⟨k1, k2⟩) hS (fun o15 g14 H locs h16 hG hS => ?_)
  have hk := And.intro k1 k2
  replace h := h16
  exact r_aret (o := o15) S hr (Or.inr ⟨_, rfl⟩) hlk hG hS h hk.1 hk.2 d_AL_grow0_10
def w_AL_add3_11 (z mi mc ms : Nat) (post : Sg → Prop) : Nat → Nat → Sg → Nat → Option Nat → Option Nat → Int32 → Prop := fun kc ks g this v1 v2 v3 => ∃ a15, v2 = some a15 ∧ ∃ a19, v1 = some a19 ∧ (∃ j17 : Nat, inA g a15 106 v3 j17 ∧ isK g a19 [2, 3] ∧ ∀ g18 : Sg, g18 = sR g a15 j17 (some a19) → (hasI g18 this 3 ∧ ∀ g21 : Sg, g21 = wI g18 3 this (v3 + (1 : Int32)) → post g21))
set_option maxHeartbeats 4000000 in
set_option maxRecDepth 100000 in
theorem s_AL_add3_11 {p : Program} {l : Launch} {e : Env} {s : State} {m : MethodId} {args : Array Value} {below : List Frame} {meth : Method} {c : Code} {D : va_G} {cA : Nat → ClassId} {sz z mi mc ms : Nat} {post : Sg → Prop} (S : CallFix p m c b_AL_add3 4 s args TBL "java/util/ArrayList") (hZ : Ws D cA sz z mi s) (hr : meth.sig.returnType = none) (hlk : meth.locks = false) :
    ∀ (kc ks : Nat) (g : Sg) (this : Nat) (v1 : Option Nat) (v2 : Option Nat) (v3 : Int32) (H : Heap) (locs : List Loc) (ls : Array Slot), kc ≤ mc ∧ ks ≤ ms → w_AL_add3_11 z mi mc ms post kc ks g this v1 v2 v3 → WP D cA sz g H → va_S (oA sz) s.heap H locs → lv_has ls 4 [(0, .ref this), (1, va_rf v1), (2, va_rf v2), (3, .int v3)] → W p l e ({ frames := 5, cells := mc, slots := ms, locals := 147 } : Room) s m args below meth c H locs kc ks (MQ below (Qg D cA sz (pV post)) args s mc ms (oA sz)) (F0 m 11 ls []) := by
  obtain ⟨hx, hb, hml, hown, hts⟩ := id S
  intro kc ks g this v1 v2 v3 H locs ls hk h hG hS hl
  refine q_aload_n hx hb d_AL_add3_11 rfl (lv_at hl 2 rfl) ?_
  refine lv_iload_n hx hb d_AL_add3_12 rfl (lv_at hl 3 rfl) ?_
  refine q_aload_n hx hb d_AL_add3_13 rfl (lv_at hl 1 rfl) ?_
  obtain ⟨a15, e9, h⟩ := h
  subst e9
  have hl16 : lv_has ls 4 [(0, .ref this), (1, va_rf v1), (2, .ref a15), (3, .int v3)] := hl
  obtain ⟨a19, e9, h⟩ := h
  subst e9
  have hl20 : lv_has ls 4 [(0, .ref this), (1, .ref a19), (2, .ref a15), (3, .int v3)] := hl16
  obtain ⟨j17, h9, h8, h⟩ := h
  refine r_aast106 S hZ hG hS h9 h8 d_AL_add3_14 (fun g18 H locs e9 hG hS => ?_)
  replace h := h g18 e9
  refine lv_aload_n hx hb d_AL_add3_15 rfl (lv_at hl20 0 rfl) ?_
  refine lv_iload_n hx hb d_AL_add3_16 rfl (lv_at hl20 3 rfl) ?_
  refine lv_iconst (v := (1 : Int32)) hx hb d_AL_add3_17 (by decide) ?_
  refine lv_iadd hx hb d_AL_add3_18 ?_
  refine r_putI (f := 3) S hZ hG hS rfl h.1 (hts _ tw_50) (fun _ h9 => h9) (Or.inl rfl) d_AL_add3_19 (fun g21 H locs e9 hG hS => ?_)
  replace h := h.2 g21 e9
  exact r_vret S hr hlk hG hS h hk.1 hk.2 d_AL_add3_22
def w_AL_add3 (z mi mc ms : Nat) (post : Sg → Prop) (g : Sg) (this : Nat) (p0 : Option Nat) (p1 : Option Nat) (p2 : Int32) : Prop := ∃ a11, p1 = some a11 ∧ (∃ n13 : Nat, lenA g z a11 n13 ∧ ∀ x14 : Int32, x14 = nI n13 → (¬ p2 = x14 → w_AL_add3_11 z mi mc ms post 0 0 g this p0 (some a11) p2) ∧ (p2 = x14 → (isK g this [0] ∧ ∃ c23 c24 : Nat, 0 + c23 ≤ mc ∧ 0 + c24 ≤ ms ∧ w_AL_grow0 z mi c23 c24 (fun (o26 : Option Nat) (g25 : Sg) => w_AL_add3_11 z mi mc ms post (0 + c23) (0 + c24) g25 this p0 o26 p2) g this)))
set_option maxHeartbeats 4000000 in
set_option maxRecDepth 100000 in
theorem s_AL_add3 {l : Launch} {D : va_G} {cA : Nat → ClassId} {sz z mi mc ms : Nat} {g : Sg} {post : Sg → Prop} {this : Nat} {p0 : Option Nat} {p1 : Option Nat} {p2 : Int32} (h : w_AL_add3 z mi mc ms post g this p0 p1 p2) : Met l y_AL_add3 (Cond.code y_AL_add3 b_AL_add3 4 none :: TBL) ({ frames := 5, cells := mc, slots := ms, locals := 147 } : Room) (Pg D cA sz z mi [.ref this, va_rf p0, va_rf p1, .int p2] g) (Qg D cA sz (pV post)) mc ms (oA sz) := by
  refine m_code (lv := [(0, .ref this), (1, va_rf p0), (2, va_rf p1), (3, .int p2)]) (by decide +kernel) (by simp [lg_sl, rf_cat, cat_i, cat_r, cat_l]) (by simp [lv_args, rf_cat, cat_i, cat_r, cat_l]) ?_
  intro p e s m below meth c ls S hr hlk hnm hZ hG hS hl
  obtain ⟨hx, hb, hml, hown, hts⟩ := id S
  have hk : 0 ≤ mc ∧ 0 ≤ ms := ⟨Nat.zero_le _, Nat.zero_le _⟩
  refine lv_iload_n hx hb d_AL_add3_0 rfl (lv_at hl 3 rfl) ?_
  refine q_aload_n hx hb d_AL_add3_1 rfl (lv_at hl 2 rfl) ?_
  obtain ⟨a11, e9, h⟩ := h
  subst e9
  have hl12 : lv_has ls 4 [(0, .ref this), (1, va_rf p0), (2, .ref a11), (3, .int p2)] := hl
  obtain ⟨n13, h9, h⟩ := h
  refine r_alen S hZ hG hS h9 d_AL_add3_2 (fun x14 e9 => ?_)
  replace h := h x14 e9
  refine lv_icmp_ne (tgt := 11) hx hb d_AL_add3_3 (by decide) (fun c9 => ?_) (fun c9 => ?_)
  · replace h := h.1 c9
    exact s_AL_add3_11 S hZ hr hlk _ _ _ _ _ _ _ _ _ _ hk h hG hS (lv_sub hl12 [0, 1, 2, 3] rfl)
  · replace h := h.2 c9
    refine lv_aload_n hx hb d_AL_add3_6 rfl (lv_at hl12 0 rfl) ?_
    obtain ⟨h9, h⟩ := h
    obtain ⟨c23, c24, k1, k2, h⟩ := h
    obtain ⟨n9, h9⟩ := isK1 h9
    refine q_callR (run_V (As := []) (rest := []) S hZ hG hS (s_AL_grow0 h) tw_540 tw_537 tw_539 tp_26 tw_4 nk_AL_grow0 h9 (by decide) rfl ⟨Nat.le_of_ble_eq_true rfl, Nat.le_of_ble_eq_true rfl⟩ rfl hl12.1 rfl (by decide) d_AL_add3_7 ⟨k1, k2⟩) hS (fun o26 g25 H locs h28 hG hS => ?_)
    have hk := And.intro k1 k2
    replace h := h28
    refine q_astore_n (o := o26) (lv' := [(2, va_rf o26), (0, .ref this), (1, va_rf p0), (3, .int p2)]) hx hb d_AL_add3_10 rfl hl12 (by decide) (.n (.k 0 rfl (by decide) (by decide) (.c 1 rfl (by decide) (rf_cat _) (.k 3 rfl (by decide) (by decide) .e)))) (fun ls27 hl27 => ?_)
    exact s_AL_add3_11 S hZ hr hlk _ _ _ _ _ _ _ _ _ _ hk h hG hS (lv_sub hl27 [1, 2, 0, 3] rfl)
def w_AL_add1 (z mi mc ms : Nat) (post : Int32 → Sg → Prop) (g : Sg) (this : Nat) (p0 : Option Nat) : Prop := (hasI g this 1 ∧ ∀ x11 : Int32, x11 = fI g 1 this → (hasI g this 1 ∧ ∀ g12 : Sg, g12 = wI g 1 this (x11 + (1 : Int32)) → (hasR g12 this 2 ∧ ∀ o13 : Option Nat, o13 = fR g12 2 this → (hasI g12 this 3 ∧ ∀ x14 : Int32, x14 = fI g12 3 this → (isK g12 this [0] ∧ ∃ c15 c16 : Nat, 0 + c15 ≤ mc ∧ 0 + c16 ≤ ms ∧ w_AL_add3 z mi c15 c16 (fun (g17 : Sg) => post (1 : Int32) g17) g12 this p0 o13 x14)))))
set_option maxHeartbeats 4000000 in
set_option maxRecDepth 100000 in
theorem s_AL_add1 {l : Launch} {D : va_G} {cA : Nat → ClassId} {sz z mi mc ms : Nat} {g : Sg} {post : Int32 → Sg → Prop} {this : Nat} {p0 : Option Nat} (h : w_AL_add1 z mi mc ms post g this p0) : Met l y_AL_add1 (Cond.code y_AL_add1 b_AL_add1 2 (some FieldType.boolean) :: TBL) ({ frames := 6, cells := mc, slots := ms, locals := 170 } : Room) (Pg D cA sz z mi [.ref this, va_rf p0] g) (Qg D cA sz (pI post)) mc ms (oA sz) := by
  refine m_code (lv := [(0, .ref this), (1, va_rf p0)]) (by decide +kernel) (by simp [lg_sl, rf_cat, cat_i, cat_r, cat_l]) (by simp [lv_args, rf_cat, cat_i, cat_r, cat_l]) ?_
  intro p e s m below meth c ls S hr hlk hnm hZ hG hS hl
  obtain ⟨hx, hb, hml, hown, hts⟩ := id S
  have hk : 0 ≤ mc ∧ 0 ≤ ms := ⟨Nat.zero_le _, Nat.zero_le _⟩
  refine lv_aload_n hx hb d_AL_add1_0 rfl (lv_at hl 0 rfl) ?_
  refine lv_dup hx hb d_AL_add1_1 rfl ?_
  refine r_getI (f := 1) S hZ hG rfl h.1 (hts _ tw_52) (fun x9 h9 => u_same (hts _ tw_53) x9 h9) d_AL_add1_2 (fun x11 e9 => ?_)
  replace h := h.2 x11 e9
  refine lv_iconst (v := (1 : Int32)) hx hb d_AL_add1_5 (by decide) ?_
  refine lv_iadd hx hb d_AL_add1_6 ?_
  refine r_putI (f := 1) S hZ hG hS rfl h.1 (hts _ tw_52) (fun x9 h9 => u_same (hts _ tw_53) x9 h9) (Or.inl rfl) d_AL_add1_7 (fun g12 H locs e9 hG hS => ?_)
  replace h := h.2 g12 e9
  refine lv_aload_n hx hb d_AL_add1_10 rfl (lv_at hl 0 rfl) ?_
  refine q_aload_n hx hb d_AL_add1_11 rfl (lv_at hl 1 rfl) ?_
  refine lv_aload_n hx hb d_AL_add1_12 rfl (lv_at hl 0 rfl) ?_
  refine r_getR (f := 2) S hZ hG rfl h.1 (hts _ tw_49) (fun _ h9 => h9) d_AL_add1_13 (fun o13 e9 => ?_)
  replace h := h.2 o13 e9
  refine lv_aload_n hx hb d_AL_add1_16 rfl (lv_at hl 0 rfl) ?_
  refine r_getI (f := 3) S hZ hG rfl h.1 (hts _ tw_50) (fun _ h9 => h9) d_AL_add1_17 (fun x14 e9 => ?_)
  replace h := h.2 x14 e9
  obtain ⟨h9, h⟩ := h
  obtain ⟨c15, c16, k1, k2, h⟩ := h
  obtain ⟨n9, h9⟩ := isK1 h9
  refine q_callV (run_V (As := [va_rf p0, va_rf o13, .int x14]) (rest := []) S hZ hG hS (s_AL_add3 h) tw_536 tw_533 tw_535 tp_25 tw_4 nk_AL_add3 h9 (by decide) rfl ⟨Nat.le_of_ble_eq_true rfl, Nat.le_of_ble_eq_true rfl⟩ rfl hl.1 rfl (by decide) d_AL_add1_20 ⟨k1, k2⟩) hS (fun g17 H locs h18 hG hS => ?_)
  have hk := And.intro k1 k2
  replace h := h18
  refine lv_iconst (v := (1 : Int32)) hx hb d_AL_add1_23 (by decide) ?_
  exact r_zret (v := (1 : Int32)) S hr hlk rfl hG hS h hk.1 hk.2 d_AL_add1_24
