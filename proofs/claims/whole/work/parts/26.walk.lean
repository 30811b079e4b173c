def w_G_has (z mi mc ms : Nat) (post : Int32 → Sg → Prop) (g : Sg) (this : Nat) (p0 : Option Nat) (p1 : Int32) (p2 : Int32) : Prop := (hasR g this 36 ∧ ∀ o11 : Option Nat, o11 = fR g 36 this → ∃ a12, o11 = some a12 ∧ (∃ j13 : Nat, inA g a12 100 p2 j13 ∧ ∀ x14 : Int32, x14 = aI g a12 j13 → (hasR g this 35 ∧ ∀ o15 : Option Nat, o15 = fR g 35 this → ∃ a16, o15 = some a16 ∧ (∃ j17 : Nat, inA g a16 100 p2 j17 ∧ ∀ x18 : Int32, x18 = aI g a16 j17 → ∃ a19, p0 = some a19 ∧ (∃ j21 : Nat, inA g a19 101 (p1 + x18) j21 ∧ ∀ x22 : Int32, x22 = aI g a19 j21 → (x22 ≤ x14 → post (0 : Int32) g) ∧ (¬ x22 ≤ x14 → post (1 : Int32) g))))))
set_option maxHeartbeats 4000000 in
set_option maxRecDepth 100000 in
theorem s_G_has {l : Launch} {D : va_G} {cA : Nat → ClassId} {sz z mi mc ms : Nat} {g : Sg} {post : Int32 → Sg → Prop} {this : Nat} {p0 : Option Nat} {p1 : Int32} {p2 : Int32} (h : w_G_has z mi mc ms post g this p0 p1 p2) : Met l y_G_has (Cond.code y_G_has b_G_has 4 (some FieldType.boolean) :: TBL) ({ frames := 0, cells := mc, slots := ms, locals := 0 } : Room) (Pg D cA sz z mi [.ref this, va_rf p0, .int p1, .int p2] g) (Qg D cA sz (pI post)) mc ms (oA sz) := by
  refine m_code (lv := [(0, .ref this), (1, va_rf p0), (2, .int p1), (3, .int p2)]) (by decide +kernel) (by simp [lg_sl, rf_cat, cat_i, cat_r, cat_l]) (by simp [lv_args, rf_cat, cat_i, cat_r, cat_l]) ?_
  intro p e s m below meth c ls S hr hlk hnm hZ hG hS hl
  obtain ⟨hx, hb, hml, hown, hts⟩ := id S
  have hk : 0 ≤ mc ∧ 0 ≤ ms := ⟨Nat.zero_le _, Nat.zero_le _⟩
  refine lv_aload_n hx hb d_G_has_0 rfl (lv_at hl 0 rfl) ?_
  refine r_getR (f := 36) S hZ hG rfl h.1 (hts _ tw_711) (fun _ h9 => h9) d_G_has_1 (fun o11 e9 => ?_)
  replace h := h.2 o11 e9
  refine lv_iload_n hx hb d_G_has_4 rfl (lv_at hl 3 rfl) ?_
  obtain ⟨a12, e9, h⟩ := h
  subst e9
  obtain ⟨j13, h9, h⟩ := h
  refine r_iald S hZ hG h9 d_G_has_5 (fun x14 e9 => ?_)
  replace h := h x14 e9
  refine q_aload_n hx hb d_G_has_6 rfl (lv_at hl 1 rfl) ?_
  refine lv_iload_n hx hb d_G_has_7 rfl (lv_at hl 2 rfl) ?_
  refine lv_aload_n hx hb d_G_has_8 rfl (lv_at hl 0 rfl) ?_
  refine r_getR (f := 35) S hZ hG rfl h.1 (hts _ tw_709) (fun _ h9 => h9) d_G_has_9 (fun o15 e9 => ?_)
  replace h := h.2 o15 e9
  refine lv_iload_n hx hb d_G_has_12 rfl (lv_at hl 3 rfl) ?_
  obtain ⟨a16, e9, h⟩ := h
  subst e9
  obtain ⟨j17, h9, h⟩ := h
  refine r_iald S hZ hG h9 d_G_has_13 (fun x18 e9 => ?_)
  replace h := h x18 e9
  refine lv_iadd hx hb d_G_has_14 ?_
  obtain ⟨a19, e9, h⟩ := h
  subst e9
  have hl20 : lv_has ls 4 [(0, .ref this), (1, .ref a19), (2, .int p1), (3, .int p2)] := hl
  obtain ⟨j21, h9, h⟩ := h
  refine r_sald S hZ hG h9 d_G_has_15 (fun x22 e9 => ?_)
  replace h := h x22 e9
  refine lv_icmp_ge (tgt := 23) hx hb d_G_has_16 (by decide) (fun c9 => ?_) (fun c9 => ?_)
  · replace h := h.1 c9
    refine lv_iconst (v := (0 : Int32)) hx hb d_G_has_23 (by decide) ?_
    exact r_zret (v := (0 : Int32)) S hr hlk rfl hG hS h hk.1 hk.2 d_G_has_24
  · replace h := h.2 c9
    refine lv_iconst (v := (1 : Int32)) hx hb d_G_has_19 (by decide) ?_
    refine lv_goto (tgt := 24) hx hb d_G_has_20 (by decide) ?_
    exact r_zret (v := (1 : Int32)) S hr hlk rfl hG hS h hk.1 hk.2 d_G_has_24
def w_G_isSeen_20 (z mi mc ms : Nat) (post : Int32 → Sg → Prop) : Nat → Nat → Nat → Sg → Nat → Option Nat → Int32 → Int32 → Prop
  | 0 => fun _ _ _ _ _ _ _ => False
  | n + 1 => fun kc ks g this v1 v2 v4 => (v4 < 0 → post (1 : Int32) g) ∧ (¬ v4 < 0 → (isK g this [5] ∧ ∃ c20 c21 : Nat, kc + c20 ≤ mc ∧ ks + c21 ≤ ms ∧ w_G_has z mi c20 c21 (fun (x23 : Int32) (g22 : Sg) => (x23 = 0 → (hasR g22 this 48 ∧ ∀ o24 : Option Nat, o24 = fR g22 48 this → ∃ a25, o24 = some a25 ∧ (∃ j26 : Nat, inA g22 a25 100 v4 j26 ∧ ∀ x27 : Int32, x27 = aI g22 a25 j26 → w_G_isSeen_20 z mi mc ms post n (kc + c20) (ks + c21) g22 this v1 v2 x27))) ∧ (¬ x23 = 0 → post (0 : Int32) g22)) g this v1 v2 v4))
set_option maxHeartbeats 4000000 in
set_option maxRecDepth 100000 in
theorem s_G_isSeen_20 {p : Program} {l : Launch} {e : Env} {s : State} {m : MethodId} {args : Array Value} {below : List Frame} {meth : Method} {c : Code} {D : va_G} {cA : Nat → ClassId} {sz z mi mc ms : Nat} {post : Int32 → Sg → Prop} (S : CallFix p m c b_G_isSeen 5 s args TBL "WeaveCoreModel$Graph") (hZ : Ws D cA sz z mi s) (hr : meth.sig.returnType = (some FieldType.boolean)) (hlk : meth.locks = false) :
    ∀ n : Nat, ∀ (kc ks : Nat) (g : Sg) (this : Nat) (v1 : Option Nat) (v2 : Int32) (v4 : Int32) (H : Heap) (locs : List Loc) (ls : Array Slot), kc ≤ mc ∧ ks ≤ ms → w_G_isSeen_20 z mi mc ms post n kc ks g this v1 v2 v4 → WP D cA sz g H → va_S (oA sz) s.heap H locs → lv_has ls 5 [(0, .ref this), (1, va_rf v1), (2, .int v2), (4, .int v4)] → W p l e ({ frames := 1, cells := mc, slots := ms, locals := 23 } : Room) s m args below meth c H locs kc ks (MQ below (Qg D cA sz (pI post)) args s mc ms (oA sz)) (F0 m 20 ls []) := by
  obtain ⟨hx, hb, hml, hown, hts⟩ := id S
  intro n
  induction n with
  | zero =>
    intro kc ks g this v1 v2 v4 H locs ls hk h hG hS hl
    exact h.elim
  | succ n ih =>
    intro kc ks g this v1 v2 v4 H locs ls hk h hG hS hl
    refine lv_iload hx hb d_G_isSeen_20 (lv_at hl 3 rfl) ?_
    refine lv_if_lt (tgt := 50) hx hb d_G_isSeen_22 (by decide) (fun c9 => ?_) (fun c9 => ?_)
    · replace h := h.1 c9
      refine lv_iconst (v := (1 : Int32)) hx hb d_G_isSeen_50 (by decide) ?_
      exact r_zret (v := (1 : Int32)) S hr hlk rfl hG hS h hk.1 hk.2 d_G_isSeen_51
    · replace h := h.2 c9
      refine lv_aload_n hx hb d_G_isSeen_25 rfl (lv_at hl 0 rfl) ?_
      refine q_aload_n hx hb d_G_isSeen_26 rfl (lv_at hl 1 rfl) ?_
      refine lv_iload_n hx hb d_G_isSeen_27 rfl (lv_at hl 2 rfl) ?_
      refine lv_iload hx hb d_G_isSeen_28 (lv_at hl 3 rfl) ?_
      obtain ⟨h9, h⟩ := h
      obtain ⟨c20, c21, k1, k2, h⟩ := h
      obtain ⟨n9, h9⟩ := isK1 h9
      refine q_callI (run_V (As := [va_rf v1, .int v2, .int v4]) (rest := []) S hZ hG hS (s_G_has h) tw_880 tw_877 tw_878 tw_879 tw_9 nk_G_has h9 (by decide) rfl ⟨Nat.le_of_ble_eq_true rfl, Nat.le_of_ble_eq_true rfl⟩ rfl hl.1 rfl (by decide) d_G_isSeen_30 ⟨k1, k2⟩) hS (fun x23 g22 H locs h29 hG hS => ?_)
      have hk := And.intro k1 k2
      replace h := h29
      refine lv_if_eq (tgt := 38) hx hb d_G_isSeen_33 (by decide) (fun c9 => ?_) (fun c9 => ?_)
      · replace h := h.1 c9
        refine lv_aload_n hx hb d_G_isSeen_38 rfl (lv_at hl 0 rfl) ?_
        refine r_getR (f := 48) S hZ hG rfl h.1 (hts _ tw_727) (fun _ h9 => h9) d_G_isSeen_39 (fun o24 e9 => ?_)
        replace h := h.2 o24 e9
        refine lv_iload hx hb d_G_isSeen_42 (lv_at hl 3 rfl) ?_
        obtain ⟨a25, e9, h⟩ := h
        subst e9
        obtain ⟨j26, h9, h⟩ := h
        refine r_iald S hZ hG h9 d_G_isSeen_44 (fun x27 e9 => ?_)
        replace h := h x27 e9
        refine q_istore (lv' := [(4, .int x27), (0, .ref this), (1, va_rf v1), (2, .int v2)]) hx hb d_G_isSeen_45 hl (by decide) (.n (.k 0 rfl (by decide) (by decide) (.k 1 rfl (by decide) (by decide) (.k 2 rfl (by decide) (by decide) .e)))) (fun ls28 hl28 => ?_)
        refine lv_goto (tgt := 20) hx hb d_G_isSeen_47 (by decide) ?_
        exact ih _ _ _ _ _ _ _ _ _ _ hk h hG hS (lv_sub hl28 [1, 2, 3, 0] rfl)
      · replace h := h.2 c9
        refine lv_iconst (v := (0 : Int32)) hx hb d_G_isSeen_36 (by decide) ?_
        exact r_zret (v := (0 : Int32)) S hr hlk rfl hG hS h hk.1 hk.2 d_G_isSeen_37
def w_G_isSeen (z mi mc ms : Nat) (post : Int32 → Sg → Prop) (g : Sg) (this : Nat) (p0 : Option Nat) (p1 : Int32) (p2 : Int32) : Prop := (isK g this [5] ∧ ∃ c11 c12 : Nat, 0 + c11 ≤ mc ∧ 0 + c12 ≤ ms ∧ w_G_has z mi c11 c12 (fun (x14 : Int32) (g13 : Sg) => (¬ x14 = 0 → (hasR g13 this 49 ∧ ∀ o15 : Option Nat, o15 = fR g13 49 this → ∃ a16, o15 = some a16 ∧ (∃ j17 : Nat, inA g13 a16 100 p2 j17 ∧ ∀ x18 : Int32, x18 = aI g13 a16 j17 → (∃ n30 : Nat, w_G_isSeen_20 z mi mc ms post n30 (0 + c11) (0 + c12) g13 this p0 p1 x18)))) ∧ (x14 = 0 → post (0 : Int32) g13)) g this p0 p1 p2)
set_option maxHeartbeats 4000000 in
set_option maxRecDepth 100000 in
theorem s_G_isSeen {l : Launch} {D : va_G} {cA : Nat → ClassId} {sz z mi mc ms : Nat} {g : Sg} {post : Int32 → Sg → Prop} {this : Nat} {p0 : Option Nat} {p1 : Int32} {p2 : Int32} (h : w_G_isSeen z mi mc ms post g this p0 p1 p2) : Met l y_G_isSeen (Cond.code y_G_isSeen b_G_isSeen 5 (some FieldType.boolean) :: TBL) ({ frames := 1, cells := mc, slots := ms, locals := 23 } : Room) (Pg D cA sz z mi [.ref this, va_rf p0, .int p1, .int p2] g) (Qg D cA sz (pI post)) mc ms (oA sz) := by
  refine m_code (lv := [(0, .ref this), (1, va_rf p0), (2, .int p1), (3, .int p2)]) (by decide +kernel) (by simp [lg_sl, rf_cat, cat_i, cat_r, cat_l]) (by simp [lv_args, rf_cat, cat_i, cat_r, cat_l]) ?_
  intro p e s m below meth c ls S hr hlk hnm hZ hG hS hl
  obtain ⟨hx, hb, hml, hown, hts⟩ := id S
  have hk : 0 ≤ mc ∧ 0 ≤ ms := ⟨Nat.zero_le _, Nat.zero_le _⟩
  refine lv_aload_n hx hb d_G_isSeen_0 rfl (lv_at hl 0 rfl) ?_
  refine q_aload_n hx hb d_G_isSeen_1 rfl (lv_at hl 1 rfl) ?_
  refine lv_iload_n hx hb d_G_isSeen_2 rfl (lv_at hl 2 rfl) ?_
  refine lv_iload_n hx hb d_G_isSeen_3 rfl (lv_at hl 3 rfl) ?_
  obtain ⟨h9, h⟩ := h
  obtain ⟨c11, c12, k1, k2, h⟩ := h
  obtain ⟨n9, h9⟩ := isK1 h9
  refine q_callI (run_V (As := [va_rf p0, .int p1, .int p2]) (rest := []) S hZ hG hS (s_G_has h) tw_880 tw_877 tw_878 tw_879 tw_9 nk_G_has h9 (by decide) rfl ⟨Nat.le_of_ble_eq_true rfl, Nat.le_of_ble_eq_true rfl⟩ rfl hl.1 rfl (by decide) d_G_isSeen_4 ⟨k1, k2⟩) hS (fun x14 g13 H locs h31 hG hS => ?_)
  have hk := And.intro k1 k2
  replace h := h31
  refine lv_if_ne (tgt := 12) hx hb d_G_isSeen_7 (by decide) (fun c9 => ?_) (fun c9 => ?_)
  · replace h := h.1 c9
    refine lv_aload_n hx hb d_G_isSeen_12 rfl (lv_at hl 0 rfl) ?_
    refine r_getR (f := 49) S hZ hG rfl h.1 (hts _ tw_729) (fun _ h9 => h9) d_G_isSeen_13 (fun o15 e9 => ?_)
    replace h := h.2 o15 e9
    refine lv_iload_n hx hb d_G_isSeen_16 rfl (lv_at hl 3 rfl) ?_
    obtain ⟨a16, e9, h⟩ := h
    subst e9
    obtain ⟨j17, h9, h⟩ := h
    refine r_iald S hZ hG h9 d_G_isSeen_17 (fun x18 e9 => ?_)
    replace h := h x18 e9
    refine q_istore (lv' := [(4, .int x18), (0, .ref this), (1, va_rf p0), (2, .int p1), (3, .int p2)]) hx hb d_G_isSeen_18 hl (by decide) (.n (.k 0 rfl (by decide) (by decide) (.k 1 rfl (by decide) (by decide) (.k 2 rfl (by decide) (by decide) (.c 3 rfl (by decide) rfl .e))))) (fun ls19 hl19 => ?_)
    obtain ⟨n30, h⟩ := h
    exact s_G_isSeen_20 S hZ hr hlk n30 _ _ _ _ _ _ _ _ _ _ hk h hG hS (lv_sub hl19 [1, 2, 3, 0] rfl)
  · replace h := h.2 c9
    refine lv_iconst (v := (0 : Int32)) hx hb d_G_isSeen_10 (by decide) ?_
    exact r_zret (v := (0 : Int32)) S hr hlk rfl hG hS h hk.1 hk.2 d_G_isSeen_11
def w_G_seenMany_5 (z mi mc ms : Nat) (post : Int32 → Sg → Prop) : Nat → Nat → Nat → Sg → Nat → Option Nat → Int32 → Int32 → Int32 → Prop
  | 0 => fun _ _ _ _ _ _ _ _ => False
  | n + 1 => fun kc ks g this v1 v2 v3 v4 => (hasI g this 31 ∧ ∀ x13 : Int32, x13 = fI g 31 this → (x13 ≤ v4 → post v3 g) ∧ (¬ x13 ≤ v4 → (hasR g this 50 ∧ ∀ o14 : Option Nat, o14 = fR g 50 this → ∃ a15, o14 = some a15 ∧ (∃ j16 : Nat, inA g a15 100 v4 j16 ∧ ∀ x17 : Int32, x17 = aI g a15 j16 → (isK g this [5] ∧ ∃ c18 c19 : Nat, kc + c18 ≤ mc ∧ ks + c19 ≤ ms ∧ w_G_isSeen z mi c18 c19 (fun (x21 : Int32) (g20 : Sg) => (x21 = 0 → w_G_seenMany_5 z mi mc ms post n (kc + c18) (ks + c19) g20 this v1 v2 v3 (v4 + (1 : Int32))) ∧ (¬ x21 = 0 → w_G_seenMany_5 z mi mc ms post n (kc + c18) (ks + c19) g20 this v1 v2 (v3 + (1 : Int32)) (v4 + (1 : Int32)))) g this v1 v2 x17)))))
set_option maxHeartbeats 4000000 in
set_option maxRecDepth 100000 in
theorem s_G_seenMany_5 {p : Program} {l : Launch} {e : Env} {s : State} {m : MethodId} {args : Array Value} {below : List Frame} {meth : Method} {c : Code} {D : va_G} {cA : Nat → ClassId} {sz z mi mc ms : Nat} {post : Int32 → Sg → Prop} (S : CallFix p m c b_G_seenMany 5 s args TBL "WeaveCoreModel$Graph") (hZ : Ws D cA sz z mi s) (hr : meth.sig.returnType = (some FieldType.int)) (hlk : meth.locks = false) :
    ∀ n : Nat, ∀ (kc ks : Nat) (g : Sg) (this : Nat) (v1 : Option Nat) (v2 : Int32) (v3 : Int32) (v4 : Int32) (H : Heap) (locs : List Loc) (ls : Array Slot), kc ≤ mc ∧ ks ≤ ms → w_G_seenMany_5 z mi mc ms post n kc ks g this v1 v2 v3 v4 → WP D cA sz g H → va_S (oA sz) s.heap H locs → lv_has ls 5 [(0, .ref this), (1, va_rf v1), (2, .int v2), (3, .int v3), (4, .int v4)] → W p l e ({ frames := 2, cells := mc, slots := ms, locals := 47 } : Room) s m args below meth c H locs kc ks (MQ below (Qg D cA sz (pI post)) args s mc ms (oA sz)) (F0 m 5 ls []) := by
  obtain ⟨hx, hb, hml, hown, hts⟩ := id S
  intro n
  induction n with
  | zero =>
    intro kc ks g this v1 v2 v3 v4 H locs ls hk h hG hS hl
    exact h.elim
  | succ n ih =>
    intro kc ks g this v1 v2 v3 v4 H locs ls hk h hG hS hl
    refine lv_iload hx hb d_G_seenMany_5 (lv_at hl 4 rfl) ?_
    refine lv_aload_n hx hb d_G_seenMany_7 rfl (lv_at hl 0 rfl) ?_
    refine r_getI (f := 31) S hZ hG rfl h.1 (hts _ tw_702) (fun _ h9 => h9) d_G_seenMany_8 (fun x13 e9 => ?_)
    replace h := h.2 x13 e9
    refine lv_icmp_ge (tgt := 39) hx hb d_G_seenMany_11 (by decide) (fun c9 => ?_) (fun c9 => ?_)
    · replace h := h.1 c9
      refine lv_iload_n hx hb d_G_seenMany_39 rfl (lv_at hl 3 rfl) ?_
      exact r_iret (v := v3) S hr hlk hG hS h hk.1 hk.2 d_G_seenMany_40
    · replace h := h.2 c9
      refine lv_aload_n hx hb d_G_seenMany_14 rfl (lv_at hl 0 rfl) ?_
      refine q_aload_n hx hb d_G_seenMany_15 rfl (lv_at hl 1 rfl) ?_
      refine lv_iload_n hx hb d_G_seenMany_16 rfl (lv_at hl 2 rfl) ?_
      refine lv_aload_n hx hb d_G_seenMany_17 rfl (lv_at hl 0 rfl) ?_
      refine r_getR (f := 50) S hZ hG rfl h.1 (hts _ tw_731) (fun _ h9 => h9) d_G_seenMany_18 (fun o14 e9 => ?_)
      replace h := h.2 o14 e9
      refine lv_iload hx hb d_G_seenMany_21 (lv_at hl 4 rfl) ?_
      obtain ⟨a15, e9, h⟩ := h
      subst e9
      obtain ⟨j16, h9, h⟩ := h
      refine r_iald S hZ hG h9 d_G_seenMany_23 (fun x17 e9 => ?_)
      replace h := h x17 e9
      obtain ⟨h9, h⟩ := h
      obtain ⟨c18, c19, k1, k2, h⟩ := h
      obtain ⟨n9, h9⟩ := isK1 h9
      refine q_callI (run_V (As := [va_rf v1, .int v2, .int x17]) (rest := []) S hZ hG hS (s_G_isSeen h) tw_876 tw_873 tw_874 tw_875 tw_9 nk_G_isSeen h9 (by decide) rfl ⟨Nat.le_of_ble_eq_true rfl, Nat.le_of_ble_eq_true rfl⟩ rfl hl.1 rfl (by decide) d_G_seenMany_24 ⟨k1, k2⟩) hS (fun x21 g20 H locs h25 hG hS => ?_)
      have hk := And.intro k1 k2
      replace h := h25
      refine lv_if_eq (tgt := 33) hx hb d_G_seenMany_27 (by decide) (fun c9 => ?_) (fun c9 => ?_)
      · replace h := h.1 c9
        refine q_iinc (k := 4) (v := v4 + (1 : Int32)) (lv' := [(4, .int (v4 + (1 : Int32))), (0, .ref this), (1, va_rf v1), (2, .int v2), (3, .int v3)]) hx hb d_G_seenMany_33 hl rfl rfl (by decide) (.n (.k 0 rfl (by decide) (by decide) (.k 1 rfl (by decide) (by decide) (.k 2 rfl (by decide) (by decide) (.c 3 rfl (by decide) rfl .e))))) (fun ls22 hl22 => ?_)
        refine lv_goto (tgt := 5) hx hb d_G_seenMany_36 (by decide) ?_
        exact ih _ _ _ _ _ _ _ _ _ _ _ hk h hG hS (lv_sub hl22 [1, 2, 3, 4, 0] rfl)
      · replace h := h.2 c9
        refine q_iinc (k := 3) (v := v3 + (1 : Int32)) (lv' := [(3, .int (v3 + (1 : Int32))), (0, .ref this), (1, va_rf v1), (2, .int v2), (4, .int v4)]) hx hb d_G_seenMany_30 hl rfl rfl (by decide) (.n (.k 0 rfl (by decide) (by decide) (.k 1 rfl (by decide) (by decide) (.c 2 rfl (by decide) rfl (.k 4 rfl (by decide) (by decide) .e))))) (fun ls23 hl23 => ?_)
        refine q_iinc (k := 4) (v := v4 + (1 : Int32)) (lv' := [(4, .int (v4 + (1 : Int32))), (3, .int (v3 + (1 : Int32))), (0, .ref this), (1, va_rf v1), (2, .int v2)]) hx hb d_G_seenMany_33 hl23 rfl rfl (by decide) (.n (.c 0 rfl (by decide) rfl (.k 1 rfl (by decide) (by decide) (.k 2 rfl (by decide) (by decide) (.k 3 rfl (by decide) (by decide) .e))))) (fun ls24 hl24 => ?_)
        refine lv_goto (tgt := 5) hx hb d_G_seenMany_36 (by decide) ?_
        exact ih _ _ _ _ _ _ _ _ _ _ _ hk h hG hS (lv_sub hl24 [2, 3, 4, 1, 0] rfl)
def w_G_seenMany (z mi mc ms : Nat) (post : Int32 → Sg → Prop) (g : Sg) (this : Nat) (p0 : Option Nat) (p1 : Int32) : Prop := (∃ n26 : Nat, w_G_seenMany_5 z mi mc ms post n26 0 0 g this p0 p1 (0 : Int32) (0 : Int32))
set_option maxHeartbeats 4000000 in
set_option maxRecDepth 100000 in
theorem s_G_seenMany {l : Launch} {D : va_G} {cA : Nat → ClassId} {sz z mi mc ms : Nat} {g : Sg} {post : Int32 → Sg → Prop} {this : Nat} {p0 : Option Nat} {p1 : Int32} (h : w_G_seenMany z mi mc ms post g this p0 p1) : Met l y_G_seenMany (Cond.code y_G_seenMany b_G_seenMany 5 (some FieldType.int) :: TBL) ({ frames := 2, cells := mc, slots := ms, locals := 47 } : Room) (Pg D cA sz z mi [.ref this, va_rf p0, .int p1] g) (Qg D cA sz (pI post)) mc ms (oA sz) := by
  refine m_code (lv := [(0, .ref this), (1, va_rf p0), (2, .int p1)]) (by decide +kernel) (by simp [lg_sl, rf_cat, cat_i, cat_r, cat_l]) (by simp [lv_args, rf_cat, cat_i, cat_r, cat_l]) ?_
  intro p e s m below meth c ls S hr hlk hnm hZ hG hS hl
  obtain ⟨hx, hb, hml, hown, hts⟩ := id S
  have hk : 0 ≤ mc ∧ 0 ≤ ms := ⟨Nat.zero_le _, Nat.zero_le _⟩
  refine lv_iconst (v := (0 : Int32)) hx hb d_G_seenMany_0 (by decide) ?_
  refine q_istore_n (lv' := [(3, .int ((0 : Int32))), (0, .ref this), (1, va_rf p0), (2, .int p1)]) hx hb d_G_seenMany_1 rfl hl (by decide) (.n (.k 0 rfl (by decide) (by decide) (.k 1 rfl (by decide) (by decide) (.c 2 rfl (by decide) rfl .e)))) (fun ls11 hl11 => ?_)
  refine lv_iconst (v := (0 : Int32)) hx hb d_G_seenMany_2 (by decide) ?_
  refine q_istore (lv' := [(4, .int ((0 : Int32))), (3, .int ((0 : Int32))), (0, .ref this), (1, va_rf p0), (2, .int p1)]) hx hb d_G_seenMany_3 hl11 (by decide) (.n (.c 0 rfl (by decide) rfl (.k 1 rfl (by decide) (by decide) (.k 2 rfl (by decide) (by decide) (.k 3 rfl (by decide) (by decide) .e))))) (fun ls12 hl12 => ?_)
  obtain ⟨n26, h⟩ := h
  exact s_G_seenMany_5 S hZ hr hlk n26 _ _ _ _ _ _ _ _ _ _ _ hk h hG hS (lv_sub hl12 [2, 3, 4, 1, 0] rfl)
def w_M_seen0 (z mi mc ms : Nat) (post : Int32 → Sg → Prop) (px : Nat → Sg → Prop) (g : Sg) (this : Nat) : Prop := (hasI g this 54 ∧ ∀ x11 : Int32, x11 = fI g 54 this → (isK g this [6] ∧ ∃ c12 c13 : Nat, 0 + c12 ≤ mc ∧ 0 + c13 ≤ ms ∧ w_M_gather z mi c12 c13 (fun (g14 : Sg) => (hasR g14 this 51 ∧ ∀ o15 : Option Nat, o15 = fR g14 51 this → (hasR g14 this 55 ∧ ∀ o16 : Option Nat, o16 = fR g14 55 this → ∃ a17, o15 = some a17 ∧ (isK g14 a17 [5] ∧ ∃ c18 c19 : Nat, (0 + c12) + c18 ≤ mc ∧ (0 + c13) + c19 ≤ ms ∧ w_G_seenMany z mi c18 c19 (fun (x21 : Int32) (g20 : Sg) => post x21 g20) g14 a17 o16 (0 : Int32))))) px g this x11))
set_option maxHeartbeats 4000000 in
set_option maxRecDepth 100000 in
theorem s_M_seen0 {l : Launch} {D : va_G} {cA : Nat → ClassId} {sz z mi mc ms : Nat} {g : Sg} {post : Int32 → Sg → Prop} {px : Nat → Sg → Prop} {this : Nat} (hst : l.stackTraces = false) (h : w_M_seen0 z mi mc ms post px g this) : vx_Met l y_M_seen0 (Cond.code y_M_seen0 b_M_seen0 1 (some FieldType.int) :: TBL) ({ frames := 7, cells := mc, slots := ms, locals := 115 } : Room) (Pg D cA sz z mi [.ref this] g) (Qg D cA sz (pI post)) (Xg D cA sz px) mc ms (oA sz) := by
  refine m_codeX (lv := [(0, .ref this)]) (by decide +kernel) (Nat.le_of_ble_eq_true rfl) rfl ?_
  intro p e s m below meth c ls hxt S hr hlk hnm hZ hG hS hl
  obtain ⟨hx, hb, hml, hown, hts⟩ := id S
  have hk : 0 ≤ mc ∧ 0 ≤ ms := ⟨Nat.zero_le _, Nat.zero_le _⟩
  refine lv_aload_n hx hb d_M_seen0_0 rfl (lv_at hl 0 rfl) ?_
  refine lv_aload_n hx hb d_M_seen0_1 rfl (lv_at hl 0 rfl) ?_
  refine r_getI (f := 54) S hZ hG rfl h.1 (hts _ tw_783) (fun _ h9 => h9) d_M_seen0_2 (fun x11 e9 => ?_)
  replace h := h.2 x11 e9
  obtain ⟨h9, h⟩ := h
  obtain ⟨c12, c13, k1, k2, h⟩ := h
  obtain ⟨n9, h9⟩ := isK1 h9
  refine x_callV (xrun_V (As := [.int x11]) (rest := []) S hZ hG hS (s_M_gather hst h) tw_864 tw_861 tw_863 tp_37 tw_8 nk_M_gather h9 (by decide) rfl ⟨Nat.le_of_ble_eq_true rfl, Nat.le_of_ble_eq_true rfl⟩ rfl hl.1 rfl (by decide) d_M_seen0_5 ⟨k1, k2⟩) hS (fun i9 ce q9 g9 H locs hi h25 hG hS hq1 hq2 hq3 => ?_) (fun g14 H locs h24 hG hS => ?_)
  · have hk := And.intro k1 k2
    replace h := h25
    exact r_out (fun x hx => (hxt x hx).elim) hlk hG hS hi h hq1 hq2 hq3 hk.1 hk.2
  · have hk := And.intro k1 k2
    replace h := h24
    refine lv_aload_n hx hb d_M_seen0_8 rfl (lv_at hl 0 rfl) ?_
    refine r_getR (f := 51) S hZ hG rfl h.1 (hts _ tw_780) (fun _ h9 => h9) d_M_seen0_9 (fun o15 e9 => ?_)
    replace h := h.2 o15 e9
    refine lv_aload_n hx hb d_M_seen0_12 rfl (lv_at hl 0 rfl) ?_
    refine r_getR (f := 55) S hZ hG rfl h.1 (hts _ tw_784) (fun _ h9 => h9) d_M_seen0_13 (fun o16 e9 => ?_)
    replace h := h.2 o16 e9
    refine lv_iconst (v := (0 : Int32)) hx hb d_M_seen0_16 (by decide) ?_
    obtain ⟨a17, e9, h⟩ := h
    subst e9
    obtain ⟨h9, h⟩ := h
    obtain ⟨c18, c19, k1, k2, h⟩ := h
    obtain ⟨n9, h9⟩ := isK1 h9
    refine q_callI (run_V (As := [va_rf o16, .int ((0 : Int32))]) (rest := []) S hZ hG hS (s_G_seenMany h) tw_872 tw_869 tw_870 tw_871 tw_9 nk_G_seenMany h9 (by decide) rfl ⟨Nat.le_of_ble_eq_true rfl, Nat.le_of_ble_eq_true rfl⟩ rfl hl.1 rfl (by decide) d_M_seen0_17 ⟨k1, k2⟩) hS (fun x21 g20 H locs h22 hG hS => ?_)
    have hk := And.intro k1 k2
    replace h := h22
    exact vx_ret (r_iret (v := x21) S hr hlk hG hS h hk.1 hk.2 d_M_seen0_20)
def w_M_seen (z mi mc ms : Nat) (post : Int32 → Sg → Prop) (g : Sg) (this : Nat) : Prop := (hasI g this 56 ∧ ∀ g11 : Sg, g11 = wI g 56 this (0 : Int32) → (isK g11 this [6] ∧ ∃ c12 c13 : Nat, 0 + c12 ≤ mc ∧ 0 + c13 ≤ ms ∧ w_M_seen0 z mi c12 c13 (fun (x15 : Int32) (g14 : Sg) => post x15 g14) (fun (i16 : Nat) (g17 : Sg) => (i16 = 1 ∧ (hasI g17 this 56 ∧ ∀ g20 : Sg, g20 = wI g17 56 this (1 : Int32) → post (0 : Int32) g20))) g11 this))
set_option maxHeartbeats 4000000 in
set_option maxRecDepth 100000 in
theorem s_M_seen {l : Launch} {D : va_G} {cA : Nat → ClassId} {sz z mi mc ms : Nat} {g : Sg} {post : Int32 → Sg → Prop} {this : Nat} (hst : l.stackTraces = false) (h : w_M_seen z mi mc ms post g this) : Met l y_M_seen (Cond.codeWith y_M_seen b_M_seen 2 (some FieldType.int) [(5, 9, 10, 41)] :: TBL) ({ frames := 8, cells := mc, slots := ms, locals := 135 } : Room) (Pg D cA sz z mi [.ref this] g) (Qg D cA sz (pI post)) mc ms (oA sz) := by
  refine m_codeW (lv := [(0, .ref this)]) (by decide +kernel) (Nat.le_of_ble_eq_true rfl) rfl ?_
  intro p e s m below meth c ls htb S hr hlk hnm hZ hG hS hl
  obtain ⟨hx, hb, hml, hown, hts⟩ := id S
  have hk : 0 ≤ mc ∧ 0 ≤ ms := ⟨Nat.zero_le _, Nat.zero_le _⟩
  refine lv_aload_n hx hb d_M_seen_0 rfl (lv_at hl 0 rfl) ?_
  refine lv_iconst (v := (0 : Int32)) hx hb d_M_seen_1 (by decide) ?_
  refine r_putI (f := 56) S hZ hG hS rfl h.1 (hts _ tw_785) (fun _ h9 => h9) (Or.inl rfl) d_M_seen_2 (fun g11 H locs e9 hG hS => ?_)
  replace h := h.2 g11 e9
  refine lv_aload_n hx hb d_M_seen_5 rfl (lv_at hl 0 rfl) ?_
  obtain ⟨h9, h⟩ := h
  obtain ⟨c12, c13, k1, k2, h⟩ := h
  obtain ⟨n9, h9⟩ := isK1 h9
  refine x_callI (xrun_V (As := []) (rest := []) S hZ hG hS (s_M_seen0 hst h) tw_860 tw_857 tw_859 tp_36 tw_8 nk_M_seen0 h9 (by decide) rfl ⟨Nat.le_of_ble_eq_true rfl, Nat.le_of_ble_eq_true rfl⟩ rfl hl.1 rfl (by decide) d_M_seen_6 ⟨k1, k2⟩) hS (fun i9 ce q9 g17 H locs hi h22 hG hS hq1 hq2 hq3 => ?_) (fun x15 g14 H locs h21 hG hS => ?_)
  · have hk := And.intro k1 k2
    replace h := h22
    obtain ⟨rfl, h⟩ := h
    refine r_catch (i := 1) S hZ (by decide) [] ⟨5, 9, 10, 41⟩ [] htb (fun y hy => nomatch hy) (by decide) (by decide) tw_808 hq1 hq2 hq3 ?_
    refine q_astore_n (o := (some q9)) (lv' := [(0, .ref this)]) hx hb d_M_seen_10 rfl hl (by decide) (.c 0 rfl (by decide) rfl .e) (fun ls19 hl19 => ?_)
    refine lv_aload_n hx hb d_M_seen_11 rfl (lv_at hl19 0 rfl) ?_
    refine lv_iconst (v := (1 : Int32)) hx hb d_M_seen_12 (by decide) ?_
    refine r_putI (f := 56) S hZ hG hS rfl h.1 (hts _ tw_785) (fun _ h9 => h9) (Or.inl rfl) d_M_seen_13 (fun g20 H locs e9 hG hS => ?_)
    replace h := h.2 g20 e9
    refine lv_iconst (v := (0 : Int32)) hx hb d_M_seen_16 (by decide) ?_
    exact r_iret (v := (0 : Int32)) S hr hlk hG hS h hk.1 hk.2 d_M_seen_17
  · have hk := And.intro k1 k2
    replace h := h21
    exact r_iret (v := x15) S hr hlk hG hS h hk.1 hk.2 d_M_seen_9
def w_M_in (z mi mc ms : Nat) (post : Int32 → Sg → Prop) (g : Sg) (p0 : Int32) (p1 : Int32) (p2 : Int32) : Prop := (p0 < p1 → post (0 : Int32) g) ∧ (¬ p0 < p1 → (p2 < p0 → post (0 : Int32) g) ∧ (¬ p2 < p0 → post (1 : Int32) g))
set_option maxHeartbeats 4000000 in
set_option maxRecDepth 100000 in
theorem s_M_in {l : Launch} {D : va_G} {cA : Nat → ClassId} {sz z mi mc ms : Nat} {g : Sg} {post : Int32 → Sg → Prop} {p0 : Int32} {p1 : Int32} {p2 : Int32} (h : w_M_in z mi mc ms post g p0 p1 p2) : Met l y_M_in (Cond.code y_M_in b_M_in 3 (some FieldType.boolean) :: TBL) ({ frames := 0, cells := mc, slots := ms, locals := 0 } : Room) (Pg D cA sz z mi [.int p0, .int p1, .int p2] g) (Qg D cA sz (pI post)) mc ms (oA sz) := by
  refine m_code (lv := [(0, .int p0), (1, .int p1), (2, .int p2)]) (by decide +kernel) (Nat.le_of_ble_eq_true rfl) rfl ?_
  intro p e s m below meth c ls S hr hlk hnm hZ hG hS hl
  obtain ⟨hx, hb, hml, hown, hts⟩ := id S
  have hk : 0 ≤ mc ∧ 0 ≤ ms := ⟨Nat.zero_le _, Nat.zero_le _⟩
  refine lv_iload_n hx hb d_M_in_0 rfl (lv_at hl 0 rfl) ?_
  refine lv_iload_n hx hb d_M_in_1 rfl (lv_at hl 1 rfl) ?_
  refine lv_icmp_lt (tgt := 14) hx hb d_M_in_2 (by decide) (fun c9 => ?_) (fun c9 => ?_)
  · replace h := h.1 c9
    refine lv_iconst (v := (0 : Int32)) hx hb d_M_in_14 (by decide) ?_
    exact r_zret (v := (0 : Int32)) S hr hlk rfl hG hS h hk.1 hk.2 d_M_in_15
  · replace h := h.2 c9
    refine lv_iload_n hx hb d_M_in_5 rfl (lv_at hl 0 rfl) ?_
    refine lv_iload_n hx hb d_M_in_6 rfl (lv_at hl 2 rfl) ?_
    refine lv_icmp_gt (tgt := 14) hx hb d_M_in_7 (by decide) (fun c9 => ?_) (fun c9 => ?_)
    · replace h := h.1 c9
      refine lv_iconst (v := (0 : Int32)) hx hb d_M_in_14 (by decide) ?_
      exact r_zret (v := (0 : Int32)) S hr hlk rfl hG hS h hk.1 hk.2 d_M_in_15
    · replace h := h.2 c9
      refine lv_iconst (v := (1 : Int32)) hx hb d_M_in_10 (by decide) ?_
      refine lv_goto (tgt := 15) hx hb d_M_in_11 (by decide) ?_
      exact r_zret (v := (1 : Int32)) S hr hlk rfl hG hS h hk.1 hk.2 d_M_in_15
def w_M_check (z mi mc ms : Nat) (post : Sg → Prop) (px : Nat → Sg → Prop) (g : Sg) (p0 : Int32) : Prop := (¬ p0 = 0 → post g) ∧ (p0 = 0 → 0 + 1 ≤ mc ∧ 0 + 6 ≤ ms ∧ px 3 g)
set_option maxHeartbeats 4000000 in
set_option maxRecDepth 100000 in
theorem s_M_check {l : Launch} {D : va_G} {cA : Nat → ClassId} {sz z mi mc ms : Nat} {g : Sg} {post : Sg → Prop} {px : Nat → Sg → Prop} {p0 : Int32} (hst : l.stackTraces = false) (h : w_M_check z mi mc ms post px g p0) : vx_Met l y_M_check (Cond.code y_M_check b_M_check 1 none :: TBL) ({ frames := 6, cells := mc, slots := ms, locals := 90 } : Room) (Pg D cA sz z mi [.int p0] g) (Qg D cA sz (pV post)) (Xg D cA sz px) mc ms (oA sz) := by
  refine m_codeX (lv := [(0, .int p0)]) (by decide +kernel) (Nat.le_of_ble_eq_true rfl) rfl ?_
  intro p e s m below meth c ls hxt S hr hlk hnm hZ hG hS hl
  obtain ⟨hx, hb, hml, hown, hts⟩ := id S
  have hk : 0 ≤ mc ∧ 0 ≤ ms := ⟨Nat.zero_le _, Nat.zero_le _⟩
  refine lv_iload_n hx hb d_M_check_0 rfl (lv_at hl 0 rfl) ?_
  refine lv_if_ne (tgt := 12) hx hb d_M_check_1 (by decide) (fun c9 => ?_) (fun c9 => ?_)
  · replace h := h.1 c9
    exact vx_ret (r_vret S hr hlk hG hS h hk.1 hk.2 d_M_check_12)
  · replace h := h.2 c9
    exact r_throw (i := 3) S hst hZ hG hS (by decide) tw_885 tw_20 xa_M_27_29 xb_M_27_29 xo_M_27_29 hl.1 d_M_check_4 d_M_check_7 d_M_check_8 d_M_check_11 (fun x hx => (hxt x hx).elim) (Nat.le_of_ble_eq_true rfl) (Nat.le_of_ble_eq_true rfl) rfl rfl hlk h.2.2 h.1 h.2.1
def w_M_open (z mi mc ms : Nat) (post : Int32 → Sg → Prop) (px : Nat → Sg → Prop) (g : Sg) (this : Nat) (p0 : Int32) : Prop := (hasI g this 54 ∧ ∀ x11 : Int32, x11 = fI g 54 this → (hasR g this 51 ∧ ∀ o13 : Option Nat, o13 = fR g 51 this → ∃ a14, o13 = some a14 ∧ (isK g a14 [5] ∧ ∃ c15 c16 : Nat, 0 + c15 ≤ mc ∧ 0 + c16 ≤ ms ∧ w_G_slotOf z mi c15 c16 (fun (x18 : Int32) (g17 : Sg) => (hasI g17 this 54 ∧ ∀ g20 : Sg, g20 = wI g17 54 this (0 : Int32) → (isK g20 this [6] ∧ ∃ c21 c22 : Nat, (0 + c15) + c21 ≤ mc ∧ (0 + c16) + c22 ≤ ms ∧ w_M_gather z mi c21 c22 (fun (g23 : Sg) => (x18 < 0 → (hasR g23 this 51 ∧ ∀ o24 : Option Nat, o24 = fR g23 51 this → (hasR g23 this 55 ∧ ∀ o25 : Option Nat, o25 = fR g23 55 this → ∃ a26, o24 = some a26 ∧ (isK g23 a26 [5] ∧ ∃ c27 c28 : Nat, ((0 + c15) + c21) + c27 ≤ mc ∧ ((0 + c16) + c22) + c28 ≤ ms ∧ w_G_seenMany z mi c27 c28 (fun (x30 : Int32) (g29 : Sg) => post x30 g29) g23 a26 o25 (0 : Int32))))) ∧ (¬ x18 < 0 → (hasR g23 this 55 ∧ ∀ o32 : Option Nat, o32 = fR g23 55 this → ∃ a33, o32 = some a33 ∧ (∃ j34 : Nat, inA g23 a33 101 x18 j34 ∧ ∀ x35 : Int32, x35 = aI g23 a33 j34 → (hasR g23 this 51 ∧ ∀ o36 : Option Nat, o36 = fR g23 51 this → ∃ a37, o36 = some a37 ∧ (hasR g23 a37 33 ∧ ∀ o38 : Option Nat, o38 = fR g23 33 a37 → ∃ a39, o38 = some a39 ∧ (∃ j40 : Nat, inA g23 a39 100 x18 j40 ∧ ∀ x41 : Int32, x41 = aI g23 a39 j40 → (x41 ≤ x35 → (hasR g23 this 51 ∧ ∀ o42 : Option Nat, o42 = fR g23 51 this → (hasR g23 this 55 ∧ ∀ o43 : Option Nat, o43 = fR g23 55 this → ∃ a44, o42 = some a44 ∧ (isK g23 a44 [5] ∧ ∃ c45 c46 : Nat, ((0 + c15) + c21) + c45 ≤ mc ∧ ((0 + c16) + c22) + c46 ≤ ms ∧ w_G_seenMany z mi c45 c46 (fun (x48 : Int32) (g47 : Sg) => post x48 g47) g23 a44 o43 (0 : Int32))))) ∧ (¬ x41 ≤ x35 → ((0 + c15) + c21) + 1 ≤ mc ∧ ((0 + c16) + c22) + 6 ≤ ms ∧ px 1 g23)))))))) px g20 this x11))) g a14 p0)))
set_option maxHeartbeats 4000000 in
set_option maxRecDepth 100000 in
theorem s_M_open {l : Launch} {D : va_G} {cA : Nat → ClassId} {sz z mi mc ms : Nat} {g : Sg} {post : Int32 → Sg → Prop} {px : Nat → Sg → Prop} {this : Nat} {p0 : Int32} (hst : l.stackTraces = false) (h : w_M_open z mi mc ms post px g this p0) : vx_Met l y_M_open (Cond.code y_M_open b_M_open 4 (some FieldType.int) :: TBL) ({ frames := 7, cells := mc, slots := ms, locals := 115 } : Room) (Pg D cA sz z mi [.ref this, .int p0] g) (Qg D cA sz (pI post)) (Xg D cA sz px) mc ms (oA sz) := by
  refine m_codeX (lv := [(0, .ref this), (1, .int p0)]) (by decide +kernel) (Nat.le_of_ble_eq_true rfl) rfl ?_
  intro p e s m below meth c ls hxt S hr hlk hnm hZ hG hS hl
  obtain ⟨hx, hb, hml, hown, hts⟩ := id S
  have hk : 0 ≤ mc ∧ 0 ≤ ms := ⟨Nat.zero_le _, Nat.zero_le _⟩
  refine lv_aload_n hx hb d_M_open_0 rfl (lv_at hl 0 rfl) ?_
  refine r_getI (f := 54) S hZ hG rfl h.1 (hts _ tw_783) (fun _ h9 => h9) d_M_open_1 (fun x11 e9 => ?_)
  replace h := h.2 x11 e9
  refine q_istore_n (lv' := [(2, .int x11), (0, .ref this), (1, .int p0)]) hx hb d_M_open_4 rfl hl (by decide) (.n (.k 0 rfl (by decide) (by decide) (.c 1 rfl (by decide) rfl .e))) (fun ls12 hl12 => ?_)
  refine lv_aload_n hx hb d_M_open_5 rfl (lv_at hl12 1 rfl) ?_
  refine r_getR (f := 51) S hZ hG rfl h.1 (hts _ tw_780) (fun _ h9 => h9) d_M_open_6 (fun o13 e9 => ?_)
  replace h := h.2 o13 e9
  refine lv_iload_n hx hb d_M_open_9 rfl (lv_at hl12 2 rfl) ?_
  obtain ⟨a14, e9, h⟩ := h
  subst e9
  obtain ⟨h9, h⟩ := h
  obtain ⟨c15, c16, k1, k2, h⟩ := h
  obtain ⟨n9, h9⟩ := isK1 h9
  refine q_callI (run_V (As := [.int p0]) (rest := []) S hZ hG hS (s_G_slotOf h) tw_821 tw_903 tw_819 tw_820 tw_9 nk_G_slotOf h9 (by decide) rfl ⟨Nat.le_of_ble_eq_true rfl, Nat.le_of_ble_eq_true rfl⟩ rfl hl12.1 rfl (by decide) d_M_open_10 ⟨k1, k2⟩) hS (fun x18 g17 H locs h53 hG hS => ?_)
  have hk := And.intro k1 k2
  replace h := h53
  refine q_istore_n (lv' := [(3, .int x18), (2, .int x11), (0, .ref this), (1, .int p0)]) hx hb d_M_open_13 rfl hl12 (by decide) (.n (.c 0 rfl (by decide) rfl (.k 1 rfl (by decide) (by decide) (.k 2 rfl (by decide) (by decide) .e)))) (fun ls19 hl19 => ?_)
  refine lv_aload_n hx hb d_M_open_14 rfl (lv_at hl19 2 rfl) ?_
  refine lv_iconst (v := (0 : Int32)) hx hb d_M_open_15 (by decide) ?_
  refine r_putI (f := 54) S hZ hG hS rfl h.1 (hts _ tw_783) (fun _ h9 => h9) (Or.inl rfl) d_M_open_16 (fun g20 H locs e9 hG hS => ?_)
  replace h := h.2 g20 e9
  refine lv_aload_n hx hb d_M_open_19 rfl (lv_at hl19 2 rfl) ?_
  refine lv_iload_n hx hb d_M_open_20 rfl (lv_at hl19 1 rfl) ?_
  obtain ⟨h9, h⟩ := h
  obtain ⟨c21, c22, k1, k2, h⟩ := h
  obtain ⟨n9, h9⟩ := isK1 h9
  refine x_callV (xrun_V (As := [.int x11]) (rest := []) S hZ hG hS (s_M_gather hst h) tw_864 tw_861 tw_863 tp_37 tw_8 nk_M_gather h9 (by decide) rfl ⟨Nat.le_of_ble_eq_true rfl, Nat.le_of_ble_eq_true rfl⟩ rfl hl19.1 rfl (by decide) d_M_open_21 ⟨k1, k2⟩) hS (fun i9 ce q9 g9 H locs hi h52 hG hS hq1 hq2 hq3 => ?_) (fun g23 H locs h51 hG hS => ?_)
  · have hk := And.intro k1 k2
    replace h := h52
    exact r_out (fun x hx => (hxt x hx).elim) hlk hG hS hi h hq1 hq2 hq3 hk.1 hk.2
  · have hk := And.intro k1 k2
    replace h := h51
    refine lv_iload_n hx hb d_M_open_24 rfl (lv_at hl19 0 rfl) ?_
    refine lv_if_lt (tgt := 54) hx hb d_M_open_25 (by decide) (fun c9 => ?_) (fun c9 => ?_)
    · replace h := h.1 c9
      refine lv_aload_n hx hb d_M_open_54 rfl (lv_at hl19 2 rfl) ?_
      refine r_getR (f := 51) S hZ hG rfl h.1 (hts _ tw_780) (fun _ h9 => h9) d_M_open_55 (fun o24 e9 => ?_)
      replace h := h.2 o24 e9
      refine lv_aload_n hx hb d_M_open_58 rfl (lv_at hl19 2 rfl) ?_
      refine r_getR (f := 55) S hZ hG rfl h.1 (hts _ tw_784) (fun _ h9 => h9) d_M_open_59 (fun o25 e9 => ?_)
      replace h := h.2 o25 e9
      refine lv_iconst (v := (0 : Int32)) hx hb d_M_open_62 (by decide) ?_
      obtain ⟨a26, e9, h⟩ := h
      subst e9
      obtain ⟨h9, h⟩ := h
      obtain ⟨c27, c28, k1, k2, h⟩ := h
      obtain ⟨n9, h9⟩ := isK1 h9
      refine q_callI (run_V (As := [va_rf o25, .int ((0 : Int32))]) (rest := []) S hZ hG hS (s_G_seenMany h) tw_872 tw_869 tw_870 tw_871 tw_9 nk_G_seenMany h9 (by decide) rfl ⟨Nat.le_of_ble_eq_true rfl, Nat.le_of_ble_eq_true rfl⟩ rfl hl19.1 rfl (by decide) d_M_open_63 ⟨k1, k2⟩) hS (fun x30 g29 H locs h31 hG hS => ?_)
      have hk := And.intro k1 k2
      replace h := h31
      exact vx_ret (r_iret (v := x30) S hr hlk hG hS h hk.1 hk.2 d_M_open_66)
    · replace h := h.2 c9
      refine lv_aload_n hx hb d_M_open_28 rfl (lv_at hl19 2 rfl) ?_
      refine r_getR (f := 55) S hZ hG rfl h.1 (hts _ tw_784) (fun _ h9 => h9) d_M_open_29 (fun o32 e9 => ?_)
      replace h := h.2 o32 e9
      refine lv_iload_n hx hb d_M_open_32 rfl (lv_at hl19 0 rfl) ?_
      obtain ⟨a33, e9, h⟩ := h
      subst e9
      obtain ⟨j34, h9, h⟩ := h
      refine r_sald S hZ hG h9 d_M_open_33 (fun x35 e9 => ?_)
      replace h := h x35 e9
      refine lv_aload_n hx hb d_M_open_34 rfl (lv_at hl19 2 rfl) ?_
      refine r_getR (f := 51) S hZ hG rfl h.1 (hts _ tw_780) (fun _ h9 => h9) d_M_open_35 (fun o36 e9 => ?_)
      replace h := h.2 o36 e9
      obtain ⟨a37, e9, h⟩ := h
      subst e9
      refine r_getR (f := 33) S hZ hG rfl h.1 (hts _ tw_707) (fun _ h9 => h9) d_M_open_38 (fun o38 e9 => ?_)
      replace h := h.2 o38 e9
      refine lv_iload_n hx hb d_M_open_41 rfl (lv_at hl19 0 rfl) ?_
      obtain ⟨a39, e9, h⟩ := h
      subst e9
      obtain ⟨j40, h9, h⟩ := h
      refine r_iald S hZ hG h9 d_M_open_42 (fun x41 e9 => ?_)
      replace h := h x41 e9
      refine lv_icmp_ge (tgt := 54) hx hb d_M_open_43 (by decide) (fun c9 => ?_) (fun c9 => ?_)
      · replace h := h.1 c9
        refine lv_aload_n hx hb d_M_open_54 rfl (lv_at hl19 2 rfl) ?_
        refine r_getR (f := 51) S hZ hG rfl h.1 (hts _ tw_780) (fun _ h9 => h9) d_M_open_55 (fun o42 e9 => ?_)
        replace h := h.2 o42 e9
        refine lv_aload_n hx hb d_M_open_58 rfl (lv_at hl19 2 rfl) ?_
        refine r_getR (f := 55) S hZ hG rfl h.1 (hts _ tw_784) (fun _ h9 => h9) d_M_open_59 (fun o43 e9 => ?_)
        replace h := h.2 o43 e9
        refine lv_iconst (v := (0 : Int32)) hx hb d_M_open_62 (by decide) ?_
        obtain ⟨a44, e9, h⟩ := h
        subst e9
        obtain ⟨h9, h⟩ := h
        obtain ⟨c45, c46, k1, k2, h⟩ := h
        obtain ⟨n9, h9⟩ := isK1 h9
        refine q_callI (run_V (As := [va_rf o43, .int ((0 : Int32))]) (rest := []) S hZ hG hS (s_G_seenMany h) tw_872 tw_869 tw_870 tw_871 tw_9 nk_G_seenMany h9 (by decide) rfl ⟨Nat.le_of_ble_eq_true rfl, Nat.le_of_ble_eq_true rfl⟩ rfl hl19.1 rfl (by decide) d_M_open_63 ⟨k1, k2⟩) hS (fun x48 g47 H locs h49 hG hS => ?_)
        have hk := And.intro k1 k2
        replace h := h49
        exact vx_ret (r_iret (v := x48) S hr hlk hG hS h hk.1 hk.2 d_M_open_66)
      · replace h := h.2 c9
        exact r_throw (i := 1) S hst hZ hG hS (by decide) tw_808 tw_16 xa_M_41_43 xb_M_41_43 xo_M_41_43 hl19.1 d_M_open_46 d_M_open_49 d_M_open_50 d_M_open_53 (fun x hx => (hxt x hx).elim) (Nat.le_of_ble_eq_true rfl) (Nat.le_of_ble_eq_true rfl) rfl rfl hlk h.2.2 h.1 h.2.1
def w_M_room (z mi mc ms : Nat) (post : Sg → Prop) (px : Nat → Sg → Prop) (g : Sg) (this : Nat) (p0 : Int32) (p1 : Int32) : Prop := (hasR g this 51 ∧ ∀ o11 : Option Nat, o11 = fR g 51 this → ∃ a12, o11 = some a12 ∧ (hasI g a12 29 ∧ ∀ x13 : Int32, x13 = fI g 29 a12 → ((8192 : Int32) < (x13 + p1) → 0 + 1 ≤ mc ∧ 0 + 6 ≤ ms ∧ px 2 g) ∧ (¬ (8192 : Int32) < (x13 + p1) → (hasR g this 51 ∧ ∀ o14 : Option Nat, o14 = fR g 51 this → ∃ a15, o14 = some a15 ∧ (isK g a15 [5] ∧ ∃ c16 c17 : Nat, 0 + c16 ≤ mc ∧ 0 + c17 ≤ ms ∧ w_G_slotOf z mi c16 c17 (fun (x19 : Int32) (g18 : Sg) => (0 ≤ x19 → post g18) ∧ (¬ 0 ≤ x19 → (hasR g18 this 51 ∧ ∀ o20 : Option Nat, o20 = fR g18 51 this → ∃ a21, o20 = some a21 ∧ (hasI g18 a21 30 ∧ ∀ x22 : Int32, x22 = fI g18 30 a21 → (¬ x22 = (16 : Int32) → post g18) ∧ (x22 = (16 : Int32) → (0 + c16) + 1 ≤ mc ∧ (0 + c17) + 6 ≤ ms ∧ px 2 g18))))) g a15 p0)))))
set_option maxHeartbeats 4000000 in
set_option maxRecDepth 100000 in
theorem s_M_room {l : Launch} {D : va_G} {cA : Nat → ClassId} {sz z mi mc ms : Nat} {g : Sg} {post : Sg → Prop} {px : Nat → Sg → Prop} {this : Nat} {p0 : Int32} {p1 : Int32} (hst : l.stackTraces = false) (h : w_M_room z mi mc ms post px g this p0 p1) : vx_Met l y_M_room (Cond.code y_M_room b_M_room 3 none :: TBL) ({ frames := 6, cells := mc, slots := ms, locals := 90 } : Room) (Pg D cA sz z mi [.ref this, .int p0, .int p1] g) (Qg D cA sz (pV post)) (Xg D cA sz px) mc ms (oA sz) := by
  refine m_codeX (lv := [(0, .ref this), (1, .int p0), (2, .int p1)]) (by decide +kernel) (Nat.le_of_ble_eq_true rfl) rfl ?_
  intro p e s m below meth c ls hxt S hr hlk hnm hZ hG hS hl
  obtain ⟨hx, hb, hml, hown, hts⟩ := id S
  have hk : 0 ≤ mc ∧ 0 ≤ ms := ⟨Nat.zero_le _, Nat.zero_le _⟩
  refine lv_aload_n hx hb d_M_room_0 rfl (lv_at hl 0 rfl) ?_
  refine r_getR (f := 51) S hZ hG rfl h.1 (hts _ tw_780) (fun _ h9 => h9) d_M_room_1 (fun o11 e9 => ?_)
  replace h := h.2 o11 e9
  obtain ⟨a12, e9, h⟩ := h
  subst e9
  refine r_getI (f := 29) S hZ hG rfl h.1 (hts _ tw_698) (fun _ h9 => h9) d_M_room_4 (fun x13 e9 => ?_)
  replace h := h.2 x13 e9
  refine lv_iload_n hx hb d_M_room_7 rfl (lv_at hl 2 rfl) ?_
  refine lv_iadd hx hb d_M_room_8 ?_
  refine lv_sipush (v := (8192 : Int32)) hx hb d_M_room_9 (by decide) ?_
  refine lv_icmp_gt (tgt := 38) hx hb d_M_room_12 (by decide) (fun c9 => ?_) (fun c9 => ?_)
  · replace h := h.1 c9
    exact r_throw (i := 2) S hst hZ hG hS (by decide) tw_809 tw_17 xa_M_44_46 xb_M_44_46 xo_M_44_46 hl.1 d_M_room_38 d_M_room_41 d_M_room_42 d_M_room_45 (fun x hx => (hxt x hx).elim) (Nat.le_of_ble_eq_true rfl) (Nat.le_of_ble_eq_true rfl) rfl rfl hlk h.2.2 h.1 h.2.1
  · replace h := h.2 c9
    refine lv_aload_n hx hb d_M_room_15 rfl (lv_at hl 0 rfl) ?_
    refine r_getR (f := 51) S hZ hG rfl h.1 (hts _ tw_780) (fun _ h9 => h9) d_M_room_16 (fun o14 e9 => ?_)
    replace h := h.2 o14 e9
    refine lv_iload_n hx hb d_M_room_19 rfl (lv_at hl 1 rfl) ?_
    obtain ⟨a15, e9, h⟩ := h
    subst e9
    obtain ⟨h9, h⟩ := h
    obtain ⟨c16, c17, k1, k2, h⟩ := h
    obtain ⟨n9, h9⟩ := isK1 h9
    refine q_callI (run_V (As := [.int p0]) (rest := []) S hZ hG hS (s_G_slotOf h) tw_821 tw_903 tw_819 tw_820 tw_9 nk_G_slotOf h9 (by decide) rfl ⟨Nat.le_of_ble_eq_true rfl, Nat.le_of_ble_eq_true rfl⟩ rfl hl.1 rfl (by decide) d_M_room_20 ⟨k1, k2⟩) hS (fun x19 g18 H locs h23 hG hS => ?_)
    have hk := And.intro k1 k2
    replace h := h23
    refine lv_if_ge (tgt := 46) hx hb d_M_room_23 (by decide) (fun c9 => ?_) (fun c9 => ?_)
    · replace h := h.1 c9
      exact vx_ret (r_vret S hr hlk hG hS h hk.1 hk.2 d_M_room_46)
    · replace h := h.2 c9
      refine lv_aload_n hx hb d_M_room_26 rfl (lv_at hl 0 rfl) ?_
      refine r_getR (f := 51) S hZ hG rfl h.1 (hts _ tw_780) (fun _ h9 => h9) d_M_room_27 (fun o20 e9 => ?_)
      replace h := h.2 o20 e9
      obtain ⟨a21, e9, h⟩ := h
      subst e9
      refine r_getI (f := 30) S hZ hG rfl h.1 (hts _ tw_701) (fun _ h9 => h9) d_M_room_30 (fun x22 e9 => ?_)
      replace h := h.2 x22 e9
      refine lv_bipush (v := (16 : Int32)) hx hb d_M_room_33 (by decide) ?_
      refine lv_icmp_ne (tgt := 46) hx hb d_M_room_35 (by decide) (fun c9 => ?_) (fun c9 => ?_)
      · replace h := h.1 c9
        exact vx_ret (r_vret S hr hlk hG hS h hk.1 hk.2 d_M_room_46)
      · replace h := h.2 c9
        exact r_throw (i := 2) S hst hZ hG hS (by decide) tw_809 tw_17 xa_M_44_46 xb_M_44_46 xo_M_44_46 hl.1 d_M_room_38 d_M_room_41 d_M_room_42 d_M_room_45 (fun x hx => (hxt x hx).elim) (Nat.le_of_ble_eq_true rfl) (Nat.le_of_ble_eq_true rfl) rfl rfl hlk h.2.2 h.1 h.2.1
def w_AR_copyI (z mi mc ms : Nat) (post : Option Nat → Sg → Prop) (g : Sg) (p0 : Option Nat) (p1 : Int32) : Prop := ∃ a11, p0 = some a11 ∧ (∃ n13 : Nat, lenA g z a11 n13 ∧ ∀ x14 : Int32, x14 = nI n13 → (¬ p1 = x14 → (∃ n17 : Nat, p1 = nI n17 ∧ n17 ≤ 1000000 ∧ 0 + 1 ≤ mc ∧ 0 + n17 ≤ ms ∧ ∀ a15 : Nat, hT g a15 = none → ∀ g16 : Sg, g16 = nO g a15 100 n17 → (∃ n19 : Nat, lenA g16 z a11 n19 ∧ ∀ x20 : Int32, x20 = nI n19 → (∃ c21 c22 : Nat, (0 + 1) + c21 ≤ mc ∧ (0 + n17) + c22 ≤ ms ∧ w_MA_min z mi c21 c22 (fun (x24 : Int32) (g23 : Sg) => (∃ j26 j27 n28 : Nat, cpOK 100 g23 a11 a15 (0 : Int32) (0 : Int32) x24 j26 j27 n28 ∧ ∀ g25 : Sg, g25 = cI g23 a15 (va_cpy (aI g23 a11) (aI g23 a15) j26 j27 n28) → post (some a15) g25)) g16 x20 p1)))) ∧ (p1 = x14 → (∃ n30 : Nat, hT g a11 = some (100, n30) ∧ 0 + 1 ≤ mc ∧ 0 + n30 ≤ ms ∧ ∀ a31 : Nat, hT g a31 = none → ∀ g32 : Sg, g32 = cI (nO g a31 100 n30) a31 (aI g a11) → ((∃ n33 : Nat, hT g32 a31 = some (100, n33)) ∧ post (some a31) g32))))
set_option maxHeartbeats 4000000 in
set_option maxRecDepth 100000 in
theorem s_AR_copyI {l : Launch} {D : va_G} {cA : Nat → ClassId} {sz z mi mc ms : Nat} {g : Sg} {post : Option Nat → Sg → Prop} {p0 : Option Nat} {p1 : Int32} (h : w_AR_copyI z mi mc ms post g p0 p1) : Met l y_AR_copyI (Cond.code y_AR_copyI b_AR_copyI 3 (some (FieldType.array FieldType.int)) :: TBL) ({ frames := 1, cells := mc, slots := ms, locals := 60 } : Room) (Pg D cA sz z mi [va_rf p0, .int p1] g) (Qg D cA sz (pR post)) mc ms (oA sz) := by
  refine m_code (lv := [(0, va_rf p0), (1, .int p1)]) (by decide +kernel) (by simp [lg_sl, rf_cat, cat_i, cat_r, cat_l]) (by simp [lv_args, rf_cat, cat_i, cat_r, cat_l]) ?_
  intro p e s m below meth c ls S hr hlk hnm hZ hG hS hl
  obtain ⟨hx, hb, hml, hown, hts⟩ := id S
  have hk : 0 ≤ mc ∧ 0 ≤ ms := ⟨Nat.zero_le _, Nat.zero_le _⟩
  refine lv_iload_n hx hb d_AR_copyI_0 rfl (lv_at hl 1 rfl) ?_
  refine q_aload_n hx hb d_AR_copyI_1 rfl (lv_at hl 0 rfl) ?_
  obtain ⟨a11, e9, h⟩ := h
  subst e9
  have hl12 : lv_has ls 3 [(0, .ref a11), (1, .int p1)] := hl
  obtain ⟨n13, h9, h⟩ := h
  refine r_alen S hZ hG hS h9 d_AR_copyI_2 (fun x14 e9 => ?_)
  replace h := h x14 e9
  refine lv_icmp_ne (tgt := 14) hx hb d_AR_copyI_3 (by decide) (fun c9 => ?_) (fun c9 => ?_)
  · replace h := h.1 c9
    refine lv_iload_n hx hb d_AR_copyI_14 rfl (lv_at hl12 1 rfl) ?_
    obtain ⟨n17, e9, n9, h⟩ := h
    refine r_newa (k := 100) (n := n17) (ty := .int) S hZ hG hS (hts _ tw_88) rfl ⟨by decide, by decide⟩ rfl e9 n9 (de_100 _ 0 _) (by decide) h.1 h.2.1 d_AR_copyI_15 (fun a15 g16 H f9 e9 hG hS => ?_)
    have hk := And.intro h.1 h.2.1
    replace h := h.2.2 a15 f9 g16 e9
    refine q_astore_n (o := (some a15)) (lv' := [(2, .ref a15), (0, .ref a11), (1, .int p1)]) hx hb d_AR_copyI_17 rfl hl12 (by decide) (.n (.k 0 rfl (by decide) (by decide) (.c 1 rfl (by decide) rfl .e))) (fun ls18 hl18 => ?_)
    refine lv_aload_n hx hb d_AR_copyI_18 rfl (lv_at hl18 1 rfl) ?_
    refine lv_iconst (v := (0 : Int32)) hx hb d_AR_copyI_19 (by decide) ?_
    refine lv_aload_n hx hb d_AR_copyI_20 rfl (lv_at hl18 0 rfl) ?_
    refine lv_iconst (v := (0 : Int32)) hx hb d_AR_copyI_21 (by decide) ?_
    refine lv_aload_n hx hb d_AR_copyI_22 rfl (lv_at hl18 1 rfl) ?_
    obtain ⟨n19, h9, h⟩ := h
    refine r_alen S hZ hG hS h9 d_AR_copyI_23 (fun x20 e9 => ?_)
    replace h := h x20 e9
    refine lv_iload_n hx hb d_AR_copyI_24 rfl (lv_at hl18 2 rfl) ?_
    obtain ⟨c21, c22, k1, k2, h⟩ := h
    refine q_callI (run_S (As := [.int x20, .int p1]) (rest := [.int ((0 : Int32)), .ref a15, .int ((0 : Int32)), .ref a11]) S hZ hG hS (s_MA_min h) tw_580 tw_578 tw_579 tw_19 nk_MA_min ⟨Nat.le_of_ble_eq_true rfl, Nat.le_of_ble_eq_true rfl⟩ rfl hl18.1 rfl (Nat.le_of_ble_eq_true rfl) d_AR_copyI_25 ⟨k1, k2⟩) hS (fun x24 g23 H locs h29 hG hS => ?_)
    have hk := And.intro k1 k2
    replace h := h29
    obtain ⟨j26, j27, n28, h9, h⟩ := h
    refine r_arrI S hl18.1 hZ hG hS tw_581 tw_583 tw_582 tw_23 h9 (Nat.le_of_ble_eq_true rfl) (Nat.le_of_ble_eq_true rfl) d_AR_copyI_28 (fun g25 H locs e9 hG hS => ?_)
    replace h := h g25 e9
    refine lv_aload_n hx hb d_AR_copyI_31 rfl (lv_at hl18 0 rfl) ?_
    exact r_aret (o := (some a15)) S hr (Or.inr ⟨_, rfl⟩) hlk hG hS h hk.1 hk.2 d_AR_copyI_32
  · replace h := h.2 c9
    refine lv_aload_n hx hb d_AR_copyI_6 rfl (lv_at hl12 0 rfl) ?_
    obtain ⟨n30, h9, h⟩ := h
    refine r_clone S hl12.1 hZ (hZ.2.2.2.2.2.2.2.1 ("[I", "java/lang/Cloneable") (by decide)) hG hS tw_920 tw_460 tw_461 tw_462 tw_463 h9 (Nat.le_of_ble_eq_true rfl) (Nat.le_of_ble_eq_true rfl) h.1 h.2.1 d_AR_copyI_7 (fun a31 g32 H f9 e9 hG hS => ?_)
    have hk := And.intro h.1 h.2.1
    replace h := h.2.2 a31 f9 g32 e9
    obtain ⟨⟨n33, h9⟩, h⟩ := h
    refine r_cast100 S hZ hG (hts _ tw_921) h9 d_AR_copyI_10 ?_
    exact r_aret (o := (some a31)) S hr (Or.inr ⟨_, rfl⟩) hlk hG hS h hk.1 hk.2 d_AR_copyI_13
def w_G_add_150 (z mi mc ms : Nat) (post : Int32 → Sg → Prop) : Nat → Nat → Nat → Sg → Nat → Option Nat → Int32 → Int32 → Int32 → Prop
  | 0 => fun _ _ _ _ _ _ _ _ => False
  | n + 1 => fun kc ks g this v2 v3 v5 v6 => ((16 : Int32) ≤ v6 → (hasR g this 49 ∧ ∀ o61 : Option Nat, o61 = fR g 49 this → ∃ a62, o61 = some a62 ∧ (∃ j63 : Nat, inA g a62 100 v5 j63 ∧ ∀ g64 : Sg, g64 = sI g a62 j63 (-1 : Int32) → (hasR g64 this 43 ∧ ∀ o65 : Option Nat, o65 = fR g64 43 this → ∃ a66, o65 = some a66 ∧ (∃ j67 : Nat, inA g64 a66 100 v5 j67 ∧ ∀ g68 : Sg, g68 = sI g64 a66 j67 (-1 : Int32) → (hasR g68 this 44 ∧ ∀ o69 : Option Nat, o69 = fR g68 44 this → ∃ a70, o69 = some a70 ∧ (∃ j71 : Nat, inA g68 a70 100 v5 j71 ∧ ∀ g72 : Sg, g72 = sI g68 a70 j71 (-1 : Int32) → (hasR g72 this 42 ∧ ∀ o73 : Option Nat, o73 = fR g72 42 this → ∃ a74, o73 = some a74 ∧ (∃ j75 : Nat, inA g72 a74 100 v5 j75 ∧ ∀ g76 : Sg, g76 = sI g72 a74 j75 (-1 : Int32) → post v5 g76))))))))) ∧ (¬ (16 : Int32) ≤ v6 → (hasR g this 37 ∧ ∀ o77 : Option Nat, o77 = fR g 37 this → ∃ a78, v2 = some a78 ∧ (∃ j80 : Nat, inA g a78 101 (v3 + v6) j80 ∧ ∀ x81 : Int32, x81 = aI g a78 j80 → ∃ a82, o77 = some a82 ∧ (∃ j83 : Nat, inA g a82 101 (((16 : Int32) * v5) + v6) j83 ∧ ∀ g84 : Sg, g84 = sI g a82 j83 (vp_nar .short x81) → w_G_add_150 z mi mc ms post n kc ks g84 this (some a78) v3 v5 (v6 + (1 : Int32))))))
set_option maxHeartbeats 4000000 in
set_option maxRecDepth 100000 in
theorem s_G_add_150 {p : Program} {l : Launch} {e : Env} {s : State} {m : MethodId} {args : Array Value} {below : List Frame} {meth : Method} {c : Code} {D : va_G} {cA : Nat → ClassId} {sz z mi mc ms : Nat} {post : Int32 → Sg → Prop} (S : CallFix p m c b_G_add 7 s args TBL "WeaveCoreModel$Graph") (hZ : Ws D cA sz z mi s) (hr : meth.sig.returnType = (some FieldType.int)) (hlk : meth.locks = false) :
    ∀ n : Nat, ∀ (kc ks : Nat) (g : Sg) (this : Nat) (v2 : Option Nat) (v3 : Int32) (v5 : Int32) (v6 : Int32) (H : Heap) (locs : List Loc) (ls : Array Slot), kc ≤ mc ∧ ks ≤ ms → w_G_add_150 z mi mc ms post n kc ks g this v2 v3 v5 v6 → WP D cA sz g H → va_S (oA sz) s.heap H locs → lv_has ls 7 [(0, .ref this), (2, va_rf v2), (3, .int v3), (5, .int v5), (6, .int v6)] → W p l e ({ frames := 2, cells := mc, slots := ms, locals := 82 } : Room) s m args below meth c H locs kc ks (MQ below (Qg D cA sz (pI post)) args s mc ms (oA sz)) (F0 m 150 ls []) := by
  obtain ⟨hx, hb, hml, hown, hts⟩ := id S
  intro n
  induction n with
  | zero =>
    intro kc ks g this v2 v3 v5 v6 H locs ls hk h hG hS hl
    exact h.elim
  | succ n ih =>
    intro kc ks g this v2 v3 v5 v6 H locs ls hk h hG hS hl
    refine lv_iload hx hb d_G_add_150 (lv_at hl 4 rfl) ?_
    refine lv_bipush (v := (16 : Int32)) hx hb d_G_add_152 (by decide) ?_
    refine lv_icmp_ge (tgt := 182) hx hb d_G_add_154 (by decide) (fun c9 => ?_) (fun c9 => ?_)
    · replace h := h.1 c9
      refine lv_aload_n hx hb d_G_add_182 rfl (lv_at hl 0 rfl) ?_
      refine r_getR (f := 49) S hZ hG rfl h.1 (hts _ tw_729) (fun _ h9 => h9) d_G_add_183 (fun o61 e9 => ?_)
      replace h := h.2 o61 e9
      refine lv_iload hx hb d_G_add_186 (lv_at hl 3 rfl) ?_
      refine lv_iconst (v := (-1 : Int32)) hx hb d_G_add_188 (by decide) ?_
      obtain ⟨a62, e9, h⟩ := h
      subst e9
      obtain ⟨j63, h9, h⟩ := h
      refine r_iast S hZ hG hS h9 d_G_add_189 (fun g64 H locs e9 hG hS => ?_)
      replace h := h g64 e9
      refine lv_aload_n hx hb d_G_add_190 rfl (lv_at hl 0 rfl) ?_
      refine r_getR (f := 43) S hZ hG rfl h.1 (hts _ tw_722) (fun _ h9 => h9) d_G_add_191 (fun o65 e9 => ?_)
      replace h := h.2 o65 e9
      refine lv_iload hx hb d_G_add_194 (lv_at hl 3 rfl) ?_
      refine lv_iconst (v := (-1 : Int32)) hx hb d_G_add_196 (by decide) ?_
      obtain ⟨a66, e9, h⟩ := h
      subst e9
      obtain ⟨j67, h9, h⟩ := h
      refine r_iast S hZ hG hS h9 d_G_add_197 (fun g68 H locs e9 hG hS => ?_)
      replace h := h g68 e9
      refine lv_aload_n hx hb d_G_add_198 rfl (lv_at hl 0 rfl) ?_
      refine r_getR (f := 44) S hZ hG rfl h.1 (hts _ tw_723) (fun _ h9 => h9) d_G_add_199 (fun o69 e9 => ?_)
      replace h := h.2 o69 e9
      refine lv_iload hx hb d_G_add_202 (lv_at hl 3 rfl) ?_
      refine lv_iconst (v := (-1 : Int32)) hx hb d_G_add_204 (by decide) ?_
      obtain ⟨a70, e9, h⟩ := h
      subst e9
      obtain ⟨j71, h9, h⟩ := h
      refine r_iast S hZ hG hS h9 d_G_add_205 (fun g72 H locs e9 hG hS => ?_)
      replace h := h g72 e9
      refine lv_aload_n hx hb d_G_add_206 rfl (lv_at hl 0 rfl) ?_
      refine r_getR (f := 42) S hZ hG rfl h.1 (hts _ tw_721) (fun _ h9 => h9) d_G_add_207 (fun o73 e9 => ?_)
      replace h := h.2 o73 e9
      refine lv_iload hx hb d_G_add_210 (lv_at hl 3 rfl) ?_
      refine lv_iconst (v := (-1 : Int32)) hx hb d_G_add_212 (by decide) ?_
      obtain ⟨a74, e9, h⟩ := h
      subst e9
      obtain ⟨j75, h9, h⟩ := h
      refine r_iast S hZ hG hS h9 d_G_add_213 (fun g76 H locs e9 hG hS => ?_)
      replace h := h g76 e9
      refine lv_iload hx hb d_G_add_214 (lv_at hl 3 rfl) ?_
      exact r_iret (v := v5) S hr hlk hG hS h hk.1 hk.2 d_G_add_216
    · replace h := h.2 c9
      refine lv_aload_n hx hb d_G_add_157 rfl (lv_at hl 0 rfl) ?_
      refine r_getR (f := 37) S hZ hG rfl h.1 (hts _ tw_713) (fun _ h9 => h9) d_G_add_158 (fun o77 e9 => ?_)
      replace h := h.2 o77 e9
      refine lv_bipush (v := (16 : Int32)) hx hb d_G_add_161 (by decide) ?_
      refine lv_iload hx hb d_G_add_163 (lv_at hl 3 rfl) ?_
      refine lv_imul hx hb d_G_add_165 ?_
      refine lv_iload hx hb d_G_add_166 (lv_at hl 4 rfl) ?_
      refine lv_iadd hx hb d_G_add_168 ?_
      refine q_aload_n hx hb d_G_add_169 rfl (lv_at hl 1 rfl) ?_
      refine lv_iload_n hx hb d_G_add_170 rfl (lv_at hl 2 rfl) ?_
      refine lv_iload hx hb d_G_add_171 (lv_at hl 4 rfl) ?_
      refine lv_iadd hx hb d_G_add_173 ?_
      obtain ⟨a78, e9, h⟩ := h
      subst e9
      have hl79 : lv_has ls 7 [(0, .ref this), (2, .ref a78), (3, .int v3), (5, .int v5), (6, .int v6)] := hl
      obtain ⟨j80, h9, h⟩ := h
      refine r_sald S hZ hG h9 d_G_add_174 (fun x81 e9 => ?_)
      replace h := h x81 e9
      obtain ⟨a82, e9, h⟩ := h
      subst e9
      obtain ⟨j83, h9, h⟩ := h
      refine r_sast S hZ hG hS h9 d_G_add_175 (fun g84 H locs e9 hG hS => ?_)
      replace h := h g84 e9
      refine q_iinc (k := 4) (v := v6 + (1 : Int32)) (lv' := [(6, .int (v6 + (1 : Int32))), (0, .ref this), (2, .ref a78), (3, .int v3), (5, .int v5)]) hx hb d_G_add_176 hl79 rfl rfl (by decide) (.n (.k 0 rfl (by decide) (by decide) (.k 1 rfl (by decide) (by decide) (.k 2 rfl (by decide) (by decide) (.c 3 rfl (by decide) rfl .e))))) (fun ls85 hl85 => ?_)
      refine lv_goto (tgt := 150) hx hb d_G_add_179 (by decide) ?_
      exact ih _ _ _ _ _ _ _ _ _ _ _ hk h hG hS (lv_sub hl85 [1, 2, 3, 4, 0] rfl)
def w_G_add_119 (z mi mc ms : Nat) (post : Int32 → Sg → Prop) : Nat → Nat → Sg → Nat → Option Nat → Int32 → Int32 → Int32 → Prop := fun kc ks g this v2 v3 v4 v5 => (hasR g this 34 ∧ ∀ o43 : Option Nat, o43 = fR g 34 this → ∃ a44, o43 = some a44 ∧ (∃ j45 : Nat, inA g a44 107 v4 j45 ∧ ∀ o46 : Option Nat, o46 = aR g a44 j45 → (hasR g this 33 ∧ ∀ o47 : Option Nat, o47 = fR g 33 this → ∃ a48, o47 = some a48 ∧ (∃ j49 : Nat, inA g a48 100 v4 j49 ∧ ∀ x50 : Int32, x50 = aI g a48 j49 → ∃ a51, o46 = some a51 ∧ (∃ j52 : Nat, inA g a51 100 x50 j52 ∧ ∀ g53 : Sg, g53 = sI g a51 j52 v5 → (hasR g53 this 33 ∧ ∀ o54 : Option Nat, o54 = fR g53 33 this → ∃ a55, o54 = some a55 ∧ (∃ j56 : Nat, inA g53 a55 100 v4 j56 ∧ ∀ x57 : Int32, x57 = aI g53 a55 j56 → (∃ j58 : Nat, inA g53 a55 100 v4 j58 ∧ ∀ g59 : Sg, g59 = sI g53 a55 j58 (x57 + (1 : Int32)) → (∃ n86 : Nat, w_G_add_150 z mi mc ms post n86 kc ks g59 this v2 v3 v5 (0 : Int32))))))))))
set_option maxHeartbeats 4000000 in
set_option maxRecDepth 100000 in
theorem s_G_add_119 {p : Program} {l : Launch} {e : Env} {s : State} {m : MethodId} {args : Array Value} {below : List Frame} {meth : Method} {c : Code} {D : va_G} {cA : Nat → ClassId} {sz z mi mc ms : Nat} {post : Int32 → Sg → Prop} (S : CallFix p m c b_G_add 7 s args TBL "WeaveCoreModel$Graph") (hZ : Ws D cA sz z mi s) (hr : meth.sig.returnType = (some FieldType.int)) (hlk : meth.locks = false) :
    ∀ (kc ks : Nat) (g : Sg) (this : Nat) (v2 : Option Nat) (v3 : Int32) (v4 : Int32) (v5 : Int32) (H : Heap) (locs : List Loc) (ls : Array Slot), kc ≤ mc ∧ ks ≤ ms → w_G_add_119 z mi mc ms post kc ks g this v2 v3 v4 v5 → WP D cA sz g H → va_S (oA sz) s.heap H locs → lv_has ls 7 [(0, .ref this), (2, va_rf v2), (3, .int v3), (4, .int v4), (5, .int v5)] → W p l e ({ frames := 2, cells := mc, slots := ms, locals := 82 } : Room) s m args below meth c H locs kc ks (MQ below (Qg D cA sz (pI post)) args s mc ms (oA sz)) (F0 m 119 ls []) := by
  obtain ⟨hx, hb, hml, hown, hts⟩ := id S
  intro kc ks g this v2 v3 v4 v5 H locs ls hk h hG hS hl
  refine lv_aload_n hx hb d_G_add_119 rfl (lv_at hl 0 rfl) ?_
  refine r_getR (f := 34) S hZ hG rfl h.1 (hts _ tw_708) (fun _ h9 => h9) d_G_add_120 (fun o43 e9 => ?_)
  replace h := h.2 o43 e9
  refine lv_iload hx hb d_G_add_123 (lv_at hl 3 rfl) ?_
  obtain ⟨a44, e9, h⟩ := h
  subst e9
  obtain ⟨j45, h9, h⟩ := h
  refine r_mald S hZ hG h9 d_G_add_125 (fun o46 e9 => ?_)
  replace h := h o46 e9
  refine lv_aload_n hx hb d_G_add_126 rfl (lv_at hl 0 rfl) ?_
  refine r_getR (f := 33) S hZ hG rfl h.1 (hts _ tw_706) (fun _ h9 => h9) d_G_add_127 (fun o47 e9 => ?_)
  replace h := h.2 o47 e9
  refine lv_iload hx hb d_G_add_130 (lv_at hl 3 rfl) ?_
  obtain ⟨a48, e9, h⟩ := h
  subst e9
  obtain ⟨j49, h9, h⟩ := h
  refine r_iald S hZ hG h9 d_G_add_132 (fun x50 e9 => ?_)
  replace h := h x50 e9
  refine lv_iload hx hb d_G_add_133 (lv_at hl 4 rfl) ?_
  obtain ⟨a51, e9, h⟩ := h
  subst e9
  obtain ⟨j52, h9, h⟩ := h
  refine r_iast S hZ hG hS h9 d_G_add_135 (fun g53 H locs e9 hG hS => ?_)
  replace h := h g53 e9
  refine lv_aload_n hx hb d_G_add_136 rfl (lv_at hl 0 rfl) ?_
  refine r_getR (f := 33) S hZ hG rfl h.1 (hts _ tw_706) (fun _ h9 => h9) d_G_add_137 (fun o54 e9 => ?_)
  replace h := h.2 o54 e9
  refine lv_iload hx hb d_G_add_140 (lv_at hl 3 rfl) ?_
  refine lv_dup2_11 hx hb d_G_add_142 rfl (rf_cat _) ?_
  obtain ⟨a55, e9, h⟩ := h
  subst e9
  obtain ⟨j56, h9, h⟩ := h
  refine r_iald S hZ hG h9 d_G_add_143 (fun x57 e9 => ?_)
  replace h := h x57 e9
  refine lv_iconst (v := (1 : Int32)) hx hb d_G_add_144 (by decide) ?_
  refine lv_iadd hx hb d_G_add_145 ?_
  obtain ⟨j58, h9, h⟩ := h
  refine r_iast S hZ hG hS h9 d_G_add_146 (fun g59 H locs e9 hG hS => ?_)
  replace h := h g59 e9
  refine lv_iconst (v := (0 : Int32)) hx hb d_G_add_147 (by decide) ?_
  refine q_istore (lv' := [(6, .int ((0 : Int32))), (0, .ref this), (2, va_rf v2), (3, .int v3), (4, .int v4), (5, .int v5)]) hx hb d_G_add_148 hl (by decide) (.n (.k 0 rfl (by decide) (by decide) (.k 1 rfl (by decide) (by decide) (.k 2 rfl (by decide) (by decide) (.k 3 rfl (by decide) (by decide) (.c 4 rfl (by decide) rfl .e)))))) (fun ls60 hl60 => ?_)
  obtain ⟨n86, h⟩ := h
  exact s_G_add_150 S hZ hr hlk n86 _ _ _ _ _ _ _ _ _ _ _ hk h hG hS (lv_sub hl60 [1, 2, 3, 5, 0] rfl)
def w_G_add_36 (z mi mc ms : Nat) (post : Int32 → Sg → Prop) : Nat → Nat → Sg → Nat → Option Nat → Int32 → Int32 → Prop := fun kc ks g this v2 v3 v4 => (hasI g this 29 ∧ ∀ x16 : Int32, x16 = fI g 29 this → (hasI g this 29 ∧ ∀ x18 : Int32, x18 = fI g 29 this → (hasI g this 29 ∧ ∀ g19 : Sg, g19 = wI g 29 this (x18 + (1 : Int32)) → (hasR g19 this 35 ∧ ∀ o20 : Option Nat, o20 = fR g19 35 this → ∃ a21, o20 = some a21 ∧ (∃ j22 : Nat, inA g19 a21 100 x16 j22 ∧ ∀ g23 : Sg, g23 = sI g19 a21 j22 v4 → (hasR g23 this 36 ∧ ∀ o24 : Option Nat, o24 = fR g23 36 this → (hasR g23 this 33 ∧ ∀ o25 : Option Nat, o25 = fR g23 33 this → ∃ a26, o25 = some a26 ∧ (∃ j27 : Nat, inA g23 a26 100 v4 j27 ∧ ∀ x28 : Int32, x28 = aI g23 a26 j27 → ∃ a29, o24 = some a29 ∧ (∃ j30 : Nat, inA g23 a29 100 x16 j30 ∧ ∀ g31 : Sg, g31 = sI g23 a29 j30 x28 → (hasR g31 this 33 ∧ ∀ o32 : Option Nat, o32 = fR g31 33 this → ∃ a33, o32 = some a33 ∧ (∃ j34 : Nat, inA g31 a33 100 v4 j34 ∧ ∀ x35 : Int32, x35 = aI g31 a33 j34 → (hasR g31 this 34 ∧ ∀ o36 : Option Nat, o36 = fR g31 34 this → ∃ a37, o36 = some a37 ∧ (∃ j38 : Nat, inA g31 a37 107 v4 j38 ∧ ∀ o39 : Option Nat, o39 = aR g31 a37 j38 → ∃ a40, o39 = some a40 ∧ (∃ n41 : Nat, lenA g31 z a40 n41 ∧ ∀ x42 : Int32, x42 = nI n41 → (¬ x35 = x42 → w_G_add_119 z mi mc ms post kc ks g31 this v2 v3 v4 x16) ∧ (x35 = x42 → (hasR g31 this 34 ∧ ∀ o87 : Option Nat, o87 = fR g31 34 this → (hasR g31 this 34 ∧ ∀ o88 : Option Nat, o88 = fR g31 34 this → ∃ a89, o88 = some a89 ∧ (∃ j90 : Nat, inA g31 a89 107 v4 j90 ∧ ∀ o91 : Option Nat, o91 = aR g31 a89 j90 → (hasR g31 this 33 ∧ ∀ o92 : Option Nat, o92 = fR g31 33 this → ∃ a93, o92 = some a93 ∧ (∃ j94 : Nat, inA g31 a93 100 v4 j94 ∧ ∀ x95 : Int32, x95 = aI g31 a93 j94 → (∃ c96 c97 : Nat, kc + c96 ≤ mc ∧ ks + c97 ≤ ms ∧ w_AR_copyI z mi c96 c97 (fun (o99 : Option Nat) (g98 : Sg) => ∃ a100, o87 = some a100 ∧ ∃ a103, o99 = some a103 ∧ (∃ j101 n104 : Nat, inA g98 a100 107 v4 j101 ∧ hT g98 a103 = some (100, n104) ∧ ∀ g102 : Sg, g102 = sR g98 a100 j101 (some a103) → w_G_add_119 z mi mc ms post (kc + c96) (ks + c97) g102 this v2 v3 v4 x16)) g31 o91 ((2 : Int32) * x95))))))))))))))))))))))
set_option maxHeartbeats 4000000 in
set_option maxRecDepth 100000 in
theorem s_G_add_36 {p : Program} {l : Launch} {e : Env} {s : State} {m : MethodId} {args : Array Value} {below : List Frame} {meth : Method} {c : Code} {D : va_G} {cA : Nat → ClassId} {sz z mi mc ms : Nat} {post : Int32 → Sg → Prop} (S : CallFix p m c b_G_add 7 s args TBL "WeaveCoreModel$Graph") (hZ : Ws D cA sz z mi s) (hr : meth.sig.returnType = (some FieldType.int)) (hlk : meth.locks = false) :
    ∀ (kc ks : Nat) (g : Sg) (this : Nat) (v2 : Option Nat) (v3 : Int32) (v4 : Int32) (H : Heap) (locs : List Loc) (ls : Array Slot), kc ≤ mc ∧ ks ≤ ms → w_G_add_36 z mi mc ms post kc ks g this v2 v3 v4 → WP D cA sz g H → va_S (oA sz) s.heap H locs → lv_has ls 7 [(0, .ref this), (2, va_rf v2), (3, .int v3), (4, .int v4)] → W p l e ({ frames := 2, cells := mc, slots := ms, locals := 82 } : Room) s m args below meth c H locs kc ks (MQ below (Qg D cA sz (pI post)) args s mc ms (oA sz)) (F0 m 36 ls []) := by
  obtain ⟨hx, hb, hml, hown, hts⟩ := id S
  intro kc ks g this v2 v3 v4 H locs ls hk h hG hS hl
  refine lv_aload_n hx hb d_G_add_36 rfl (lv_at hl 0 rfl) ?_
  refine r_getI (f := 29) S hZ hG rfl h.1 (hts _ tw_699) (fun _ h9 => h9) d_G_add_37 (fun x16 e9 => ?_)
  replace h := h.2 x16 e9
  refine q_istore (lv' := [(5, .int x16), (0, .ref this), (2, va_rf v2), (3, .int v3), (4, .int v4)]) hx hb d_G_add_40 hl (by decide) (.n (.k 0 rfl (by decide) (by decide) (.k 1 rfl (by decide) (by decide) (.k 2 rfl (by decide) (by decide) (.c 3 rfl (by decide) rfl .e))))) (fun ls17 hl17 => ?_)
  refine lv_aload_n hx hb d_G_add_42 rfl (lv_at hl17 1 rfl) ?_
  refine lv_dup hx hb d_G_add_43 rfl ?_
  refine r_getI (f := 29) S hZ hG rfl h.1 (hts _ tw_699) (fun _ h9 => h9) d_G_add_44 (fun x18 e9 => ?_)
  replace h := h.2 x18 e9
  refine lv_iconst (v := (1 : Int32)) hx hb d_G_add_47 (by decide) ?_
  refine lv_iadd hx hb d_G_add_48 ?_
  refine r_putI (f := 29) S hZ hG hS rfl h.1 (hts _ tw_699) (fun _ h9 => h9) (Or.inl rfl) d_G_add_49 (fun g19 H locs e9 hG hS => ?_)
  replace h := h.2 g19 e9
  refine lv_aload_n hx hb d_G_add_52 rfl (lv_at hl17 1 rfl) ?_
  refine r_getR (f := 35) S hZ hG rfl h.1 (hts _ tw_709) (fun _ h9 => h9) d_G_add_53 (fun o20 e9 => ?_)
  replace h := h.2 o20 e9
  refine lv_iload hx hb d_G_add_56 (lv_at hl17 0 rfl) ?_
  refine lv_iload hx hb d_G_add_58 (lv_at hl17 4 rfl) ?_
  obtain ⟨a21, e9, h⟩ := h
  subst e9
  obtain ⟨j22, h9, h⟩ := h
  refine r_iast S hZ hG hS h9 d_G_add_60 (fun g23 H locs e9 hG hS => ?_)
  replace h := h g23 e9
  refine lv_aload_n hx hb d_G_add_61 rfl (lv_at hl17 1 rfl) ?_
  refine r_getR (f := 36) S hZ hG rfl h.1 (hts _ tw_711) (fun _ h9 => h9) d_G_add_62 (fun o24 e9 => ?_)
  replace h := h.2 o24 e9
  refine lv_iload hx hb d_G_add_65 (lv_at hl17 0 rfl) ?_
  refine lv_aload_n hx hb d_G_add_67 rfl (lv_at hl17 1 rfl) ?_
  refine r_getR (f := 33) S hZ hG rfl h.1 (hts _ tw_706) (fun _ h9 => h9) d_G_add_68 (fun o25 e9 => ?_)
  replace h := h.2 o25 e9
  refine lv_iload hx hb d_G_add_71 (lv_at hl17 4 rfl) ?_
  obtain ⟨a26, e9, h⟩ := h
  subst e9
  obtain ⟨j27, h9, h⟩ := h
  refine r_iald S hZ hG h9 d_G_add_73 (fun x28 e9 => ?_)
  replace h := h x28 e9
  obtain ⟨a29, e9, h⟩ := h
  subst e9
  obtain ⟨j30, h9, h⟩ := h
  refine r_iast S hZ hG hS h9 d_G_add_74 (fun g31 H locs e9 hG hS => ?_)
  replace h := h g31 e9
  refine lv_aload_n hx hb d_G_add_75 rfl (lv_at hl17 1 rfl) ?_
  refine r_getR (f := 33) S hZ hG rfl h.1 (hts _ tw_706) (fun _ h9 => h9) d_G_add_76 (fun o32 e9 => ?_)
  replace h := h.2 o32 e9
  refine lv_iload hx hb d_G_add_79 (lv_at hl17 4 rfl) ?_
  obtain ⟨a33, e9, h⟩ := h
  subst e9
  obtain ⟨j34, h9, h⟩ := h
  refine r_iald S hZ hG h9 d_G_add_81 (fun x35 e9 => ?_)
  replace h := h x35 e9
  refine lv_aload_n hx hb d_G_add_82 rfl (lv_at hl17 1 rfl) ?_
  refine r_getR (f := 34) S hZ hG rfl h.1 (hts _ tw_708) (fun _ h9 => h9) d_G_add_83 (fun o36 e9 => ?_)
  replace h := h.2 o36 e9
  refine lv_iload hx hb d_G_add_86 (lv_at hl17 4 rfl) ?_
  obtain ⟨a37, e9, h⟩ := h
  subst e9
  obtain ⟨j38, h9, h⟩ := h
  refine r_mald S hZ hG h9 d_G_add_88 (fun o39 e9 => ?_)
  replace h := h o39 e9
  obtain ⟨a40, e9, h⟩ := h
  subst e9
  obtain ⟨n41, h9, h⟩ := h
  refine r_alen S hZ hG hS h9 d_G_add_89 (fun x42 e9 => ?_)
  replace h := h x42 e9
  refine lv_icmp_ne (tgt := 119) hx hb d_G_add_90 (by decide) (fun c9 => ?_) (fun c9 => ?_)
  · replace h := h.1 c9
    exact s_G_add_119 S hZ hr hlk _ _ _ _ _ _ _ _ _ _ _ hk h hG hS (lv_sub hl17 [1, 2, 3, 4, 0] rfl)
  · replace h := h.2 c9
    refine lv_aload_n hx hb d_G_add_93 rfl (lv_at hl17 1 rfl) ?_
    refine r_getR (f := 34) S hZ hG rfl h.1 (hts _ tw_708) (fun _ h9 => h9) d_G_add_94 (fun o87 e9 => ?_)
    replace h := h.2 o87 e9
    refine lv_iload hx hb d_G_add_97 (lv_at hl17 4 rfl) ?_
    refine lv_aload_n hx hb d_G_add_99 rfl (lv_at hl17 1 rfl) ?_
    refine r_getR (f := 34) S hZ hG rfl h.1 (hts _ tw_708) (fun _ h9 => h9) d_G_add_100 (fun o88 e9 => ?_)
    replace h := h.2 o88 e9
    refine lv_iload hx hb d_G_add_103 (lv_at hl17 4 rfl) ?_
    obtain ⟨a89, e9, h⟩ := h
    subst e9
    obtain ⟨j90, h9, h⟩ := h
    refine r_mald S hZ hG h9 d_G_add_105 (fun o91 e9 => ?_)
    replace h := h o91 e9
    refine lv_iconst (v := (2 : Int32)) hx hb d_G_add_106 (by decide) ?_
    refine lv_aload_n hx hb d_G_add_107 rfl (lv_at hl17 1 rfl) ?_
    refine r_getR (f := 33) S hZ hG rfl h.1 (hts _ tw_706) (fun _ h9 => h9) d_G_add_108 (fun o92 e9 => ?_)
    replace h := h.2 o92 e9
    refine lv_iload hx hb d_G_add_111 (lv_at hl17 4 rfl) ?_
    obtain ⟨a93, e9, h⟩ := h
    subst e9
    obtain ⟨j94, h9, h⟩ := h
    refine r_iald S hZ hG h9 d_G_add_113 (fun x95 e9 => ?_)
    replace h := h x95 e9
    refine lv_imul hx hb d_G_add_114 ?_
    obtain ⟨c96, c97, k1, k2, h⟩ := h
    refine q_callR (run_S (As := [va_rf o91, .int ((2 : Int32) * x95)]) (rest := [.int v4, va_rf o87]) S hZ hG hS (s_AR_copyI h) tw_919 tw_917 tw_918 tw_18 nk_AR_copyI ⟨Nat.le_of_ble_eq_true rfl, Nat.le_of_ble_eq_true rfl⟩ rfl hl17.1 rfl (by simp [rf_cat, cat_i, cat_r, cat_l]) d_G_add_115 ⟨k1, k2⟩) hS (fun o99 g98 H locs h105 hG hS => ?_)
    have hk := And.intro k1 k2
    replace h := h105
    obtain ⟨a100, e9, h⟩ := h
    subst e9
    obtain ⟨a103, e9, h⟩ := h
    subst e9
    obtain ⟨j101, n104, h9, h8, h⟩ := h
    refine r_mast S hZ hG hS h9 h8 d_G_add_118 (fun g102 H locs e9 hG hS => ?_)
    replace h := h g102 e9
    exact s_G_add_119 S hZ hr hlk _ _ _ _ _ _ _ _ _ _ _ hk h hG hS (lv_sub hl17 [1, 2, 3, 4, 0] rfl)
def w_G_add (z mi mc ms : Nat) (post : Int32 → Sg → Prop) (g : Sg) (this : Nat) (p0 : Int32) (p1 : Option Nat) (p2 : Int32) : Prop := (isK g this [5] ∧ ∃ c11 c12 : Nat, 0 + c11 ≤ mc ∧ 0 + c12 ≤ ms ∧ w_G_slotOf z mi c11 c12 (fun (x14 : Int32) (g13 : Sg) => (0 ≤ x14 → w_G_add_36 z mi mc ms post (0 + c11) (0 + c12) g13 this p1 p2 x14) ∧ (¬ 0 ≤ x14 → (hasI g13 this 30 ∧ ∀ x106 : Int32, x106 = fI g13 30 this → (hasR g13 this 32 ∧ ∀ o108 : Option Nat, o108 = fR g13 32 this → ∃ a109, o108 = some a109 ∧ (∃ j110 : Nat, inA g13 a109 100 x106 j110 ∧ ∀ g111 : Sg, g111 = sI g13 a109 j110 p0 → (hasI g111 this 30 ∧ ∀ x112 : Int32, x112 = fI g111 30 this → (hasI g111 this 30 ∧ ∀ g113 : Sg, g113 = wI g111 30 this (x112 + (1 : Int32)) → w_G_add_36 z mi mc ms post (0 + c11) (0 + c12) g113 this p1 p2 x106))))))) g this p0)
set_option maxHeartbeats 4000000 in
set_option maxRecDepth 100000 in
theorem s_G_add {l : Launch} {D : va_G} {cA : Nat → ClassId} {sz z mi mc ms : Nat} {g : Sg} {post : Int32 → Sg → Prop} {this : Nat} {p0 : Int32} {p1 : Option Nat} {p2 : Int32} (h : w_G_add z mi mc ms post g this p0 p1 p2) : Met l y_G_add (Cond.code y_G_add b_G_add 7 (some FieldType.int) :: TBL) ({ frames := 2, cells := mc, slots := ms, locals := 82 } : Room) (Pg D cA sz z mi [.ref this, .int p0, va_rf p1, .int p2] g) (Qg D cA sz (pI post)) mc ms (oA sz) := by
  refine m_code (lv := [(0, .ref this), (1, .int p0), (2, va_rf p1), (3, .int p2)]) (by decide +kernel) (by simp [lg_sl, rf_cat, cat_i, cat_r, cat_l]) (by simp [lv_args, rf_cat, cat_i, cat_r, cat_l]) ?_
  intro p e s m below meth c ls S hr hlk hnm hZ hG hS hl
  obtain ⟨hx, hb, hml, hown, hts⟩ := id S
  have hk : 0 ≤ mc ∧ 0 ≤ ms := ⟨Nat.zero_le _, Nat.zero_le _⟩
  refine lv_aload_n hx hb d_G_add_0 rfl (lv_at hl 0 rfl) ?_
  refine lv_iload_n hx hb d_G_add_1 rfl (lv_at hl 1 rfl) ?_
  obtain ⟨h9, h⟩ := h
  obtain ⟨c11, c12, k1, k2, h⟩ := h
  obtain ⟨n9, h9⟩ := isK1 h9
  refine q_callI (run_V (As := [.int p0]) (rest := []) S hZ hG hS (s_G_slotOf h) tw_821 tw_818 tw_819 tw_820 tw_9 nk_G_slotOf h9 (by decide) rfl ⟨Nat.le_of_ble_eq_true rfl, Nat.le_of_ble_eq_true rfl⟩ rfl hl.1 rfl (by decide) d_G_add_2 ⟨k1, k2⟩) hS (fun x14 g13 H locs h114 hG hS => ?_)
  have hk := And.intro k1 k2
  replace h := h114
  refine q_istore (lv' := [(4, .int x14), (0, .ref this), (1, .int p0), (2, va_rf p1), (3, .int p2)]) hx hb d_G_add_5 hl (by decide) (.n (.k 0 rfl (by decide) (by decide) (.k 1 rfl (by decide) (by decide) (.k 2 rfl (by decide) (by decide) (.c 3 rfl (by decide) rfl .e))))) (fun ls15 hl15 => ?_)
  refine lv_iload hx hb d_G_add_7 (lv_at hl15 0 rfl) ?_
  refine lv_if_ge (tgt := 36) hx hb d_G_add_9 (by decide) (fun c9 => ?_) (fun c9 => ?_)
  · replace h := h.1 c9
    exact s_G_add_36 S hZ hr hlk _ _ _ _ _ _ _ _ _ _ hk h hG hS (lv_sub hl15 [1, 3, 4, 0] rfl)
  · replace h := h.2 c9
    refine lv_aload_n hx hb d_G_add_12 rfl (lv_at hl15 1 rfl) ?_
    refine r_getI (f := 30) S hZ hG rfl h.1 (hts _ tw_700) (fun _ h9 => h9) d_G_add_13 (fun x106 e9 => ?_)
    replace h := h.2 x106 e9
    refine q_istore (lv' := [(4, .int x106), (0, .ref this), (1, .int p0), (2, va_rf p1), (3, .int p2)]) hx hb d_G_add_16 hl15 (by decide) (.n (.k 1 rfl (by decide) (by decide) (.k 2 rfl (by decide) (by decide) (.k 3 rfl (by decide) (by decide) (.c 4 rfl (by decide) rfl .e))))) (fun ls107 hl107 => ?_)
    refine lv_aload_n hx hb d_G_add_18 rfl (lv_at hl107 1 rfl) ?_
    refine r_getR (f := 32) S hZ hG rfl h.1 (hts _ tw_704) (fun _ h9 => h9) d_G_add_19 (fun o108 e9 => ?_)
    replace h := h.2 o108 e9
    refine lv_iload hx hb d_G_add_22 (lv_at hl107 0 rfl) ?_
    refine lv_iload_n hx hb d_G_add_24 rfl (lv_at hl107 2 rfl) ?_
    obtain ⟨a109, e9, h⟩ := h
    subst e9
    obtain ⟨j110, h9, h⟩ := h
    refine r_iast S hZ hG hS h9 d_G_add_25 (fun g111 H locs e9 hG hS => ?_)
    replace h := h g111 e9
    refine lv_aload_n hx hb d_G_add_26 rfl (lv_at hl107 1 rfl) ?_
    refine lv_dup hx hb d_G_add_27 rfl ?_
    refine r_getI (f := 30) S hZ hG rfl h.1 (hts _ tw_700) (fun _ h9 => h9) d_G_add_28 (fun x112 e9 => ?_)
    replace h := h.2 x112 e9
    refine lv_iconst (v := (1 : Int32)) hx hb d_G_add_31 (by decide) ?_
    refine lv_iadd hx hb d_G_add_32 ?_
    refine r_putI (f := 30) S hZ hG hS rfl h.1 (hts _ tw_700) (fun _ h9 => h9) (Or.inl rfl) d_G_add_33 (fun g113 H locs e9 hG hS => ?_)
    replace h := h.2 g113 e9
    exact s_G_add_36 S hZ hr hlk _ _ _ _ _ _ _ _ _ _ hk h hG hS (lv_sub hl107 [1, 3, 4, 0] rfl)
def w_M_come (z mi mc ms : Nat) (post : Int32 → Sg → Prop) (g : Sg) (this : Nat) (p0 : Int32) : Prop := (hasR g this 51 ∧ ∀ o11 : Option Nat, o11 = fR g 51 this → (hasR g this 55 ∧ ∀ o12 : Option Nat, o12 = fR g 55 this → ∃ a13, o11 = some a13 ∧ (isK g a13 [5] ∧ ∃ c14 c15 : Nat, 0 + c14 ≤ mc ∧ 0 + c15 ≤ ms ∧ w_G_add z mi c14 c15 (fun (x17 : Int32) (g16 : Sg) => (hasR g16 this 55 ∧ ∀ o19 : Option Nat, o19 = fR g16 55 this → (hasR g16 this 51 ∧ ∀ o20 : Option Nat, o20 = fR g16 51 this → ∃ a21, o20 = some a21 ∧ (hasR g16 a21 35 ∧ ∀ o22 : Option Nat, o22 = fR g16 35 a21 → ∃ a23, o22 = some a23 ∧ (∃ j24 : Nat, inA g16 a23 100 x17 j24 ∧ ∀ x25 : Int32, x25 = aI g16 a23 j24 → (hasR g16 this 51 ∧ ∀ o26 : Option Nat, o26 = fR g16 51 this → ∃ a27, o26 = some a27 ∧ (hasR g16 a27 36 ∧ ∀ o28 : Option Nat, o28 = fR g16 36 a27 → ∃ a29, o28 = some a29 ∧ (∃ j30 : Nat, inA g16 a29 100 x17 j30 ∧ ∀ x31 : Int32, x31 = aI g16 a29 j30 → ∃ a32, o19 = some a32 ∧ (∃ j33 : Nat, inA g16 a32 101 x25 j33 ∧ ∀ g34 : Sg, g34 = sI g16 a32 j33 (vp_nar .short ((x31 + (1 : Int32)).toInt16.toInt32)) → post x17 g34))))))))) g a13 p0 o12 (0 : Int32))))
set_option maxHeartbeats 4000000 in
set_option maxRecDepth 100000 in
theorem s_M_come {l : Launch} {D : va_G} {cA : Nat → ClassId} {sz z mi mc ms : Nat} {g : Sg} {post : Int32 → Sg → Prop} {this : Nat} {p0 : Int32} (h : w_M_come z mi mc ms post g this p0) : Met l y_M_come (Cond.code y_M_come b_M_come 3 (some FieldType.int) :: TBL) ({ frames := 3, cells := mc, slots := ms, locals := 108 } : Room) (Pg D cA sz z mi [.ref this, .int p0] g) (Qg D cA sz (pI post)) mc ms (oA sz) := by
  refine m_code (lv := [(0, .ref this), (1, .int p0)]) (by decide +kernel) (Nat.le_of_ble_eq_true rfl) rfl ?_
  intro p e s m below meth c ls S hr hlk hnm hZ hG hS hl
  obtain ⟨hx, hb, hml, hown, hts⟩ := id S
  have hk : 0 ≤ mc ∧ 0 ≤ ms := ⟨Nat.zero_le _, Nat.zero_le _⟩
  refine lv_aload_n hx hb d_M_come_0 rfl (lv_at hl 0 rfl) ?_
  refine r_getR (f := 51) S hZ hG rfl h.1 (hts _ tw_780) (fun _ h9 => h9) d_M_come_1 (fun o11 e9 => ?_)
  replace h := h.2 o11 e9
  refine lv_iload_n hx hb d_M_come_4 rfl (lv_at hl 1 rfl) ?_
  refine lv_aload_n hx hb d_M_come_5 rfl (lv_at hl 0 rfl) ?_
  refine r_getR (f := 55) S hZ hG rfl h.1 (hts _ tw_784) (fun _ h9 => h9) d_M_come_6 (fun o12 e9 => ?_)
  replace h := h.2 o12 e9
  refine lv_iconst (v := (0 : Int32)) hx hb d_M_come_9 (by decide) ?_
  obtain ⟨a13, e9, h⟩ := h
  subst e9
  obtain ⟨h9, h⟩ := h
  obtain ⟨c14, c15, k1, k2, h⟩ := h
  obtain ⟨n9, h9⟩ := isK1 h9
  refine q_callI (run_V (As := [.int p0, va_rf o12, .int ((0 : Int32))]) (rest := []) S hZ hG hS (s_G_add h) tw_916 tw_913 tw_914 tw_915 tw_9 nk_G_add h9 (by decide) rfl ⟨Nat.le_of_ble_eq_true rfl, Nat.le_of_ble_eq_true rfl⟩ rfl hl.1 rfl (by decide) d_M_come_10 ⟨k1, k2⟩) hS (fun x17 g16 H locs h35 hG hS => ?_)
  have hk := And.intro k1 k2
  replace h := h35
  refine q_istore_n (lv' := [(2, .int x17), (0, .ref this), (1, .int p0)]) hx hb d_M_come_13 rfl hl (by decide) (.n (.k 0 rfl (by decide) (by decide) (.c 1 rfl (by decide) rfl .e))) (fun ls18 hl18 => ?_)
  refine lv_aload_n hx hb d_M_come_14 rfl (lv_at hl18 1 rfl) ?_
  refine r_getR (f := 55) S hZ hG rfl h.1 (hts _ tw_784) (fun _ h9 => h9) d_M_come_15 (fun o19 e9 => ?_)
  replace h := h.2 o19 e9
  refine lv_aload_n hx hb d_M_come_18 rfl (lv_at hl18 1 rfl) ?_
  refine r_getR (f := 51) S hZ hG rfl h.1 (hts _ tw_780) (fun _ h9 => h9) d_M_come_19 (fun o20 e9 => ?_)
  replace h := h.2 o20 e9
  obtain ⟨a21, e9, h⟩ := h
  subst e9
  refine r_getR (f := 35) S hZ hG rfl h.1 (hts _ tw_710) (fun _ h9 => h9) d_M_come_22 (fun o22 e9 => ?_)
  replace h := h.2 o22 e9
  refine lv_iload_n hx hb d_M_come_25 rfl (lv_at hl18 0 rfl) ?_
  obtain ⟨a23, e9, h⟩ := h
  subst e9
  obtain ⟨j24, h9, h⟩ := h
  refine r_iald S hZ hG h9 d_M_come_26 (fun x25 e9 => ?_)
  replace h := h x25 e9
  refine lv_aload_n hx hb d_M_come_27 rfl (lv_at hl18 1 rfl) ?_
  refine r_getR (f := 51) S hZ hG rfl h.1 (hts _ tw_780) (fun _ h9 => h9) d_M_come_28 (fun o26 e9 => ?_)
  replace h := h.2 o26 e9
  obtain ⟨a27, e9, h⟩ := h
  subst e9
  refine r_getR (f := 36) S hZ hG rfl h.1 (hts _ tw_712) (fun _ h9 => h9) d_M_come_31 (fun o28 e9 => ?_)
  replace h := h.2 o28 e9
  refine lv_iload_n hx hb d_M_come_34 rfl (lv_at hl18 0 rfl) ?_
  obtain ⟨a29, e9, h⟩ := h
  subst e9
  obtain ⟨j30, h9, h⟩ := h
  refine r_iald S hZ hG h9 d_M_come_35 (fun x31 e9 => ?_)
  replace h := h x31 e9
  refine lv_iconst (v := (1 : Int32)) hx hb d_M_come_36 (by decide) ?_
  refine lv_iadd hx hb d_M_come_37 ?_
  refine lv_i2s hx hb d_M_come_38 rfl ?_
  obtain ⟨a32, e9, h⟩ := h
  subst e9
  obtain ⟨j33, h9, h⟩ := h
  refine r_sast S hZ hG hS h9 d_M_come_39 (fun g34 H locs e9 hG hS => ?_)
  replace h := h g34 e9
  refine lv_iload_n hx hb d_M_come_40 rfl (lv_at hl18 0 rfl) ?_
  exact r_iret (v := x17) S hr hlk hG hS h hk.1 hk.2 d_M_come_41
def w_G_seenAt_27 (z mi mc ms : Nat) (post : Int32 → Sg → Prop) (k_6 : Nat → Nat → Sg → Nat → Option Nat → Int32 → Int32 → Int32 → Prop) : Nat → Nat → Sg → Nat → Option Nat → Int32 → Int32 → Int32 → Prop := fun kc ks g this v1 v2 v4 v5 => (hasR g this 50 ∧ ∀ o21 : Option Nat, o21 = fR g 50 this → ∃ a22, o21 = some a22 ∧ (∃ j23 : Nat, inA g a22 100 v5 j23 ∧ ∀ x24 : Int32, x24 = aI g a22 j23 → (isK g this [5] ∧ ∃ c25 c26 : Nat, kc + c25 ≤ mc ∧ ks + c26 ≤ ms ∧ w_G_isSeen z mi c25 c26 (fun (x28 : Int32) (g27 : Sg) => (x28 = 0 → k_6 (kc + c25) (ks + c26) g27 this v1 v2 v4 (v5 + (1 : Int32))) ∧ (¬ x28 = 0 → k_6 (kc + c25) (ks + c26) g27 this v1 v2 (v4 + (-1 : Int32)) (v5 + (1 : Int32)))) g this v1 v2 x24)))
set_option maxHeartbeats 4000000 in
set_option maxRecDepth 100000 in
theorem s_G_seenAt_27 {p : Program} {l : Launch} {e : Env} {s : State} {m : MethodId} {args : Array Value} {below : List Frame} {meth : Method} {c : Code} {D : va_G} {cA : Nat → ClassId} {sz z mi mc ms : Nat} {post : Int32 → Sg → Prop}  {k_6 : Nat → Nat → Sg → Nat → Option Nat → Int32 → Int32 → Int32 → Prop} (S : CallFix p m c b_G_seenAt 6 s args TBL "WeaveCoreModel$Graph") (hZ : Ws D cA sz z mi s) (hr : meth.sig.returnType = (some FieldType.int)) (hlk : meth.locks = false) (hk_6 : ∀ (kc ks : Nat) (g : Sg) (this : Nat) (v1 : Option Nat) (v2 : Int32) (v4 : Int32) (v5 : Int32) (H : Heap) (locs : List Loc) (ls : Array Slot), kc ≤ mc ∧ ks ≤ ms → k_6 kc ks g this v1 v2 v4 v5 → WP D cA sz g H → va_S (oA sz) s.heap H locs → lv_has ls 6 [(0, .ref this), (1, va_rf v1), (2, .int v2), (4, .int v4), (5, .int v5)] → W p l e ({ frames := 2, cells := mc, slots := ms, locals := 47 } : Room) s m args below meth c H locs kc ks (MQ below (Qg D cA sz (pI post)) args s mc ms (oA sz)) (F0 m 6 ls [])) :
    ∀ (kc ks : Nat) (g : Sg) (this : Nat) (v1 : Option Nat) (v2 : Int32) (v4 : Int32) (v5 : Int32) (H : Heap) (locs : List Loc) (ls : Array Slot), kc ≤ mc ∧ ks ≤ ms → w_G_seenAt_27 z mi mc ms post k_6 kc ks g this v1 v2 v4 v5 → WP D cA sz g H → va_S (oA sz) s.heap H locs → lv_has ls 6 [(0, .ref this), (1, va_rf v1), (2, .int v2), (4, .int v4), (5, .int v5)] → W p l e ({ frames := 2, cells := mc, slots := ms, locals := 47 } : Room) s m args below meth c H locs kc ks (MQ below (Qg D cA sz (pI post)) args s mc ms (oA sz)) (F0 m 27 ls []) := by
  obtain ⟨hx, hb, hml, hown, hts⟩ := id S
  intro kc ks g this v1 v2 v4 v5 H locs ls hk h hG hS hl
  refine lv_aload_n hx hb d_G_seenAt_27 rfl (lv_at hl 0 rfl) ?_
  refine q_aload_n hx hb d_G_seenAt_28 rfl (lv_at hl 1 rfl) ?_
  refine lv_iload_n hx hb d_G_seenAt_29 rfl (lv_at hl 2 rfl) ?_
  refine lv_aload_n hx hb d_G_seenAt_30 rfl (lv_at hl 0 rfl) ?_
  refine r_getR (f := 50) S hZ hG rfl h.1 (hts _ tw_731) (fun _ h9 => h9) d_G_seenAt_31 (fun o21 e9 => ?_)
  replace h := h.2 o21 e9
  refine lv_iload hx hb d_G_seenAt_34 (lv_at hl 4 rfl) ?_
  obtain ⟨a22, e9, h⟩ := h
  subst e9
  obtain ⟨j23, h9, h⟩ := h
  refine r_iald S hZ hG h9 d_G_seenAt_36 (fun x24 e9 => ?_)
  replace h := h x24 e9
  obtain ⟨h9, h⟩ := h
  obtain ⟨c25, c26, k1, k2, h⟩ := h
  obtain ⟨n9, h9⟩ := isK1 h9
  refine q_callI (run_V (As := [va_rf v1, .int v2, .int x24]) (rest := []) S hZ hG hS (s_G_isSeen h) tw_876 tw_873 tw_874 tw_875 tw_9 nk_G_isSeen h9 (by decide) rfl ⟨Nat.le_of_ble_eq_true rfl, Nat.le_of_ble_eq_true rfl⟩ rfl hl.1 rfl (by decide) d_G_seenAt_37 ⟨k1, k2⟩) hS (fun x28 g27 H locs h32 hG hS => ?_)
  have hk := And.intro k1 k2
  replace h := h32
  refine lv_if_eq (tgt := 46) hx hb d_G_seenAt_40 (by decide) (fun c9 => ?_) (fun c9 => ?_)
  · replace h := h.1 c9
    refine q_iinc (k := 4) (v := v5 + (1 : Int32)) (lv' := [(5, .int (v5 + (1 : Int32))), (0, .ref this), (1, va_rf v1), (2, .int v2), (4, .int v4)]) hx hb d_G_seenAt_46 hl rfl rfl (by decide) (.n (.k 0 rfl (by decide) (by decide) (.k 1 rfl (by decide) (by decide) (.k 2 rfl (by decide) (by decide) (.c 3 rfl (by decide) rfl .e))))) (fun ls29 hl29 => ?_)
    refine lv_goto (tgt := 6) hx hb d_G_seenAt_49 (by decide) ?_
    exact hk_6 _ _ _ _ _ _ _ _ _ _ _ hk h hG hS (lv_sub hl29 [1, 2, 3, 4, 0] rfl)
  · replace h := h.2 c9
    refine q_iinc (k := 3) (v := v4 + (-1 : Int32)) (lv' := [(4, .int (v4 + (-1 : Int32))), (0, .ref this), (1, va_rf v1), (2, .int v2), (5, .int v5)]) hx hb d_G_seenAt_43 hl rfl rfl (by decide) (.n (.k 0 rfl (by decide) (by decide) (.k 1 rfl (by decide) (by decide) (.k 2 rfl (by decide) (by decide) (.k 4 rfl (by decide) (by decide) .e))))) (fun ls30 hl30 => ?_)
    refine q_iinc (k := 4) (v := v5 + (1 : Int32)) (lv' := [(5, .int (v5 + (1 : Int32))), (4, .int (v4 + (-1 : Int32))), (0, .ref this), (1, va_rf v1), (2, .int v2)]) hx hb d_G_seenAt_46 hl30 rfl rfl (by decide) (.n (.c 0 rfl (by decide) rfl (.k 1 rfl (by decide) (by decide) (.k 2 rfl (by decide) (by decide) (.k 3 rfl (by decide) (by decide) .e))))) (fun ls31 hl31 => ?_)
    refine lv_goto (tgt := 6) hx hb d_G_seenAt_49 (by decide) ?_
    exact hk_6 _ _ _ _ _ _ _ _ _ _ _ hk h hG hS (lv_sub hl31 [2, 3, 4, 1, 0] rfl)
def w_G_seenAt_6 (z mi mc ms : Nat) (post : Int32 → Sg → Prop) : Nat → Nat → Nat → Sg → Nat → Option Nat → Int32 → Int32 → Int32 → Prop
  | 0 => fun _ _ _ _ _ _ _ _ => False
  | n + 1 => fun kc ks g this v1 v2 v4 v5 => (hasR g this 50 ∧ ∀ o13 : Option Nat, o13 = fR g 50 this → ∃ a14, o13 = some a14 ∧ (∃ j15 : Nat, inA g a14 100 v5 j15 ∧ ∀ x16 : Int32, x16 = aI g a14 j15 → (isK g this [5] ∧ ∃ c17 c18 : Nat, kc + c17 ≤ mc ∧ ks + c18 ≤ ms ∧ w_G_isSeen z mi c17 c18 (fun (x20 : Int32) (g19 : Sg) => (x20 = 0 → w_G_seenAt_27 z mi mc ms post (w_G_seenAt_6 z mi mc ms post n) (kc + c17) (ks + c18) g19 this v1 v2 v4 v5) ∧ (¬ x20 = 0 → (v4 ≤ 0 → post v5 g19) ∧ (¬ v4 ≤ 0 → w_G_seenAt_27 z mi mc ms post (w_G_seenAt_6 z mi mc ms post n) (kc + c17) (ks + c18) g19 this v1 v2 v4 v5))) g this v1 v2 x16)))
set_option maxHeartbeats 4000000 in
set_option maxRecDepth 100000 in
theorem s_G_seenAt_6 {p : Program} {l : Launch} {e : Env} {s : State} {m : MethodId} {args : Array Value} {below : List Frame} {meth : Method} {c : Code} {D : va_G} {cA : Nat → ClassId} {sz z mi mc ms : Nat} {post : Int32 → Sg → Prop} (S : CallFix p m c b_G_seenAt 6 s args TBL "WeaveCoreModel$Graph") (hZ : Ws D cA sz z mi s) (hr : meth.sig.returnType = (some FieldType.int)) (hlk : meth.locks = false) :
    ∀ n : Nat, ∀ (kc ks : Nat) (g : Sg) (this : Nat) (v1 : Option Nat) (v2 : Int32) (v4 : Int32) (v5 : Int32) (H : Heap) (locs : List Loc) (ls : Array Slot), kc ≤ mc ∧ ks ≤ ms → w_G_seenAt_6 z mi mc ms post n kc ks g this v1 v2 v4 v5 → WP D cA sz g H → va_S (oA sz) s.heap H locs → lv_has ls 6 [(0, .ref this), (1, va_rf v1), (2, .int v2), (4, .int v4), (5, .int v5)] → W p l e ({ frames := 2, cells := mc, slots := ms, locals := 47 } : Room) s m args below meth c H locs kc ks (MQ below (Qg D cA sz (pI post)) args s mc ms (oA sz)) (F0 m 6 ls []) := by
  obtain ⟨hx, hb, hml, hown, hts⟩ := id S
  intro n
  induction n with
  | zero =>
    intro kc ks g this v1 v2 v4 v5 H locs ls hk h hG hS hl
    exact h.elim
  | succ n ih =>
    intro kc ks g this v1 v2 v4 v5 H locs ls hk h hG hS hl
    refine lv_aload_n hx hb d_G_seenAt_6 rfl (lv_at hl 0 rfl) ?_
    refine q_aload_n hx hb d_G_seenAt_7 rfl (lv_at hl 1 rfl) ?_
    refine lv_iload_n hx hb d_G_seenAt_8 rfl (lv_at hl 2 rfl) ?_
    refine lv_aload_n hx hb d_G_seenAt_9 rfl (lv_at hl 0 rfl) ?_
    refine r_getR (f := 50) S hZ hG rfl h.1 (hts _ tw_731) (fun _ h9 => h9) d_G_seenAt_10 (fun o13 e9 => ?_)
    replace h := h.2 o13 e9
    refine lv_iload hx hb d_G_seenAt_13 (lv_at hl 4 rfl) ?_
    obtain ⟨a14, e9, h⟩ := h
    subst e9
    obtain ⟨j15, h9, h⟩ := h
    refine r_iald S hZ hG h9 d_G_seenAt_15 (fun x16 e9 => ?_)
    replace h := h x16 e9
    obtain ⟨h9, h⟩ := h
    obtain ⟨c17, c18, k1, k2, h⟩ := h
    obtain ⟨n9, h9⟩ := isK1 h9
    refine q_callI (run_V (As := [va_rf v1, .int v2, .int x16]) (rest := []) S hZ hG hS (s_G_isSeen h) tw_876 tw_873 tw_874 tw_875 tw_9 nk_G_isSeen h9 (by decide) rfl ⟨Nat.le_of_ble_eq_true rfl, Nat.le_of_ble_eq_true rfl⟩ rfl hl.1 rfl (by decide) d_G_seenAt_16 ⟨k1, k2⟩) hS (fun x20 g19 H locs h33 hG hS => ?_)
    have hk := And.intro k1 k2
    replace h := h33
    refine lv_if_eq (tgt := 27) hx hb d_G_seenAt_19 (by decide) (fun c9 => ?_) (fun c9 => ?_)
    · replace h := h.1 c9
      exact s_G_seenAt_27 S hZ hr hlk ih _ _ _ _ _ _ _ _ _ _ _ hk h hG hS (lv_sub hl [0, 1, 2, 3, 4] rfl)
    · replace h := h.2 c9
      refine lv_iload hx hb d_G_seenAt_22 (lv_at hl 3 rfl) ?_
      refine lv_if_le (tgt := 52) hx hb d_G_seenAt_24 (by decide) (fun c9 => ?_) (fun c9 => ?_)
      · replace h := h.1 c9
        refine lv_iload hx hb d_G_seenAt_52 (lv_at hl 4 rfl) ?_
        exact r_iret (v := v5) S hr hlk hG hS h hk.1 hk.2 d_G_seenAt_54
      · replace h := h.2 c9
        exact s_G_seenAt_27 S hZ hr hlk ih _ _ _ _ _ _ _ _ _ _ _ hk h hG hS (lv_sub hl [0, 1, 2, 3, 4] rfl)
def w_G_seenAt (z mi mc ms : Nat) (post : Int32 → Sg → Prop) (g : Sg) (this : Nat) (p0 : Option Nat) (p1 : Int32) (p2 : Int32) : Prop := (∃ n34 : Nat, w_G_seenAt_6 z mi mc ms post n34 0 0 g this p0 p1 p2 (0 : Int32))
set_option maxHeartbeats 4000000 in
set_option maxRecDepth 100000 in
theorem s_G_seenAt {l : Launch} {D : va_G} {cA : Nat → ClassId} {sz z mi mc ms : Nat} {g : Sg} {post : Int32 → Sg → Prop} {this : Nat} {p0 : Option Nat} {p1 : Int32} {p2 : Int32} (h : w_G_seenAt z mi mc ms post g this p0 p1 p2) : Met l y_G_seenAt (Cond.code y_G_seenAt b_G_seenAt 6 (some FieldType.int) :: TBL) ({ frames := 2, cells := mc, slots := ms, locals := 47 } : Room) (Pg D cA sz z mi [.ref this, va_rf p0, .int p1, .int p2] g) (Qg D cA sz (pI post)) mc ms (oA sz) := by
  refine m_code (lv := [(0, .ref this), (1, va_rf p0), (2, .int p1), (3, .int p2)]) (by decide +kernel) (by simp [lg_sl, rf_cat, cat_i, cat_r, cat_l]) (by simp [lv_args, rf_cat, cat_i, cat_r, cat_l]) ?_
  intro p e s m below meth c ls S hr hlk hnm hZ hG hS hl
  obtain ⟨hx, hb, hml, hown, hts⟩ := id S
  have hk : 0 ≤ mc ∧ 0 ≤ ms := ⟨Nat.zero_le _, Nat.zero_le _⟩
  refine lv_iload_n hx hb d_G_seenAt_0 rfl (lv_at hl 3 rfl) ?_
  refine q_istore (lv' := [(4, .int p2), (0, .ref this), (1, va_rf p0), (2, .int p1), (3, .int p2)]) hx hb d_G_seenAt_1 hl (by decide) (.n (.k 0 rfl (by decide) (by decide) (.k 1 rfl (by decide) (by decide) (.k 2 rfl (by decide) (by decide) (.c 3 rfl (by decide) rfl .e))))) (fun ls11 hl11 => ?_)
  refine lv_iconst (v := (0 : Int32)) hx hb d_G_seenAt_3 (by decide) ?_
  refine q_istore (lv' := [(5, .int ((0 : Int32))), (4, .int p2), (0, .ref this), (1, va_rf p0), (2, .int p1), (3, .int p2)]) hx hb d_G_seenAt_4 hl11 (by decide) (.n (.c 0 rfl (by decide) rfl (.k 1 rfl (by decide) (by decide) (.k 2 rfl (by decide) (by decide) (.k 3 rfl (by decide) (by decide) (.k 4 rfl (by decide) (by decide) .e)))))) (fun ls12 hl12 => ?_)
  obtain ⟨n34, h⟩ := h
  exact s_G_seenAt_6 S hZ hr hlk n34 _ _ _ _ _ _ _ _ _ _ _ hk h hG hS (lv_sub hl12 [2, 3, 4, 1, 0] rfl)
def w_G_childrenOf (z mi mc ms : Nat) (post : Int32 → Sg → Prop) (g : Sg) (this : Nat) (p0 : Int32) (p1 : Int32) : Prop := (0 ≤ p0 → (p1 = 0 → (hasR g this 43 ∧ ∀ o11 : Option Nat, o11 = fR g 43 this → ∃ a12, o11 = some a12 ∧ (∃ j13 : Nat, inA g a12 100 p0 j13 ∧ ∀ x14 : Int32, x14 = aI g a12 j13 → post x14 g))) ∧ (¬ p1 = 0 → (hasR g this 44 ∧ ∀ o15 : Option Nat, o15 = fR g 44 this → ∃ a16, o15 = some a16 ∧ (∃ j17 : Nat, inA g a16 100 p0 j17 ∧ ∀ x18 : Int32, x18 = aI g a16 j17 → post x18 g)))) ∧ (¬ 0 ≤ p0 → (hasI g this 46 ∧ ∀ x19 : Int32, x19 = fI g 46 this → post x19 g))
set_option maxHeartbeats 4000000 in
set_option maxRecDepth 100000 in
theorem s_G_childrenOf {l : Launch} {D : va_G} {cA : Nat → ClassId} {sz z mi mc ms : Nat} {g : Sg} {post : Int32 → Sg → Prop} {this : Nat} {p0 : Int32} {p1 : Int32} (h : w_G_childrenOf z mi mc ms post g this p0 p1) : Met l y_G_childrenOf (Cond.code y_G_childrenOf b_G_childrenOf 3 (some FieldType.int) :: TBL) ({ frames := 0, cells := mc, slots := ms, locals := 0 } : Room) (Pg D cA sz z mi [.ref this, .int p0, .int p1] g) (Qg D cA sz (pI post)) mc ms (oA sz) := by
  refine m_code (lv := [(0, .ref this), (1, .int p0), (2, .int p1)]) (by decide +kernel) (Nat.le_of_ble_eq_true rfl) rfl ?_
  intro p e s m below meth c ls S hr hlk hnm hZ hG hS hl
  obtain ⟨hx, hb, hml, hown, hts⟩ := id S
  have hk : 0 ≤ mc ∧ 0 ≤ ms := ⟨Nat.zero_le _, Nat.zero_le _⟩
  refine lv_iload_n hx hb d_G_childrenOf_0 rfl (lv_at hl 1 rfl) ?_
  refine lv_if_ge (tgt := 11) hx hb d_G_childrenOf_1 (by decide) (fun c9 => ?_) (fun c9 => ?_)
  · replace h := h.1 c9
    refine lv_iload_n hx hb d_G_childrenOf_11 rfl (lv_at hl 2 rfl) ?_
    refine lv_if_eq (tgt := 24) hx hb d_G_childrenOf_12 (by decide) (fun c9 => ?_) (fun c9 => ?_)
    · replace h := h.1 c9
      refine lv_aload_n hx hb d_G_childrenOf_24 rfl (lv_at hl 0 rfl) ?_
      refine r_getR (f := 43) S hZ hG rfl h.1 (hts _ tw_722) (fun _ h9 => h9) d_G_childrenOf_25 (fun o11 e9 => ?_)
      replace h := h.2 o11 e9
      refine lv_iload_n hx hb d_G_childrenOf_28 rfl (lv_at hl 1 rfl) ?_
      obtain ⟨a12, e9, h⟩ := h
      subst e9
      obtain ⟨j13, h9, h⟩ := h
      refine r_iald S hZ hG h9 d_G_childrenOf_29 (fun x14 e9 => ?_)
      replace h := h x14 e9
      exact r_iret (v := x14) S hr hlk hG hS h hk.1 hk.2 d_G_childrenOf_30
    · replace h := h.2 c9
      refine lv_aload_n hx hb d_G_childrenOf_15 rfl (lv_at hl 0 rfl) ?_
      refine r_getR (f := 44) S hZ hG rfl h.1 (hts _ tw_723) (fun _ h9 => h9) d_G_childrenOf_16 (fun o15 e9 => ?_)
      replace h := h.2 o15 e9
      refine lv_iload_n hx hb d_G_childrenOf_19 rfl (lv_at hl 1 rfl) ?_
      obtain ⟨a16, e9, h⟩ := h
      subst e9
      obtain ⟨j17, h9, h⟩ := h
      refine r_iald S hZ hG h9 d_G_childrenOf_20 (fun x18 e9 => ?_)
      replace h := h x18 e9
      refine lv_goto (tgt := 30) hx hb d_G_childrenOf_21 (by decide) ?_
      exact r_iret (v := x18) S hr hlk hG hS h hk.1 hk.2 d_G_childrenOf_30
  · replace h := h.2 c9
    refine lv_aload_n hx hb d_G_childrenOf_4 rfl (lv_at hl 0 rfl) ?_
    refine r_getI (f := 46) S hZ hG rfl h.1 (hts _ tw_725) (fun _ h9 => h9) d_G_childrenOf_5 (fun x19 e9 => ?_)
    replace h := h.2 x19 e9
    refine lv_goto (tgt := 30) hx hb d_G_childrenOf_8 (by decide) ?_
    exact r_iret (v := x19) S hr hlk hG hS h hk.1 hk.2 d_G_childrenOf_30
def w_G_hang_56 (z mi mc ms : Nat) (post : Sg → Prop) : Nat → Nat → Sg → Nat → Int32 → Int32 → Int32 → Int32 → Prop := fun kc ks g this v1 v2 v3 v4 => (v4 < 0 → (hasR g this 42 ∧ ∀ o27 : Option Nat, o27 = fR g 42 this → ∃ a28, o27 = some a28 ∧ (∃ j29 : Nat, inA g a28 100 v1 j29 ∧ ∀ g30 : Sg, g30 = sI g a28 j29 v3 → (0 ≤ v2 → (hasR g30 this 45 ∧ ∀ o31 : Option Nat, o31 = fR g30 45 this → ∃ a32, o31 = some a32 ∧ (∃ j33 : Nat, inA g30 a32 102 v1 j33 ∧ ∀ x34 : Int32, x34 = aI g30 a32 j33 → (x34 = 0 → (hasR g30 this 43 ∧ ∀ o35 : Option Nat, o35 = fR g30 43 this → ∃ a36, o35 = some a36 ∧ (∃ j37 : Nat, inA g30 a36 100 v2 j37 ∧ ∀ g38 : Sg, g38 = sI g30 a36 j37 v1 → post g38))) ∧ (¬ x34 = 0 → (hasR g30 this 44 ∧ ∀ o39 : Option Nat, o39 = fR g30 44 this → ∃ a40, o39 = some a40 ∧ (∃ j41 : Nat, inA g30 a40 100 v2 j41 ∧ ∀ g42 : Sg, g42 = sI g30 a40 j41 v1 → post g42)))))) ∧ (¬ 0 ≤ v2 → (hasI g30 this 46 ∧ ∀ g43 : Sg, g43 = wI g30 46 this v1 → post g43))))) ∧ (¬ v4 < 0 → (hasR g this 42 ∧ ∀ o44 : Option Nat, o44 = fR g 42 this → (hasR g this 42 ∧ ∀ o45 : Option Nat, o45 = fR g 42 this → ∃ a46, o45 = some a46 ∧ (∃ j47 : Nat, inA g a46 100 v4 j47 ∧ ∀ x48 : Int32, x48 = aI g a46 j47 → ∃ a49, o44 = some a49 ∧ (∃ j50 : Nat, inA g a49 100 v1 j50 ∧ ∀ g51 : Sg, g51 = sI g a49 j50 x48 → (hasR g51 this 42 ∧ ∀ o52 : Option Nat, o52 = fR g51 42 this → ∃ a53, o52 = some a53 ∧ (∃ j54 : Nat, inA g51 a53 100 v4 j54 ∧ ∀ g55 : Sg, g55 = sI g51 a53 j54 v1 → post g55)))))))
set_option maxHeartbeats 4000000 in
set_option maxRecDepth 100000 in
theorem s_G_hang_56 {p : Program} {l : Launch} {e : Env} {s : State} {m : MethodId} {args : Array Value} {below : List Frame} {meth : Method} {c : Code} {D : va_G} {cA : Nat → ClassId} {sz z mi mc ms : Nat} {post : Sg → Prop} (S : CallFix p m c b_G_hang 6 s args TBL "WeaveCoreModel$Graph") (hZ : Ws D cA sz z mi s) (hr : meth.sig.returnType = none) (hlk : meth.locks = false) :
    ∀ (kc ks : Nat) (g : Sg) (this : Nat) (v1 : Int32) (v2 : Int32) (v3 : Int32) (v4 : Int32) (H : Heap) (locs : List Loc) (ls : Array Slot), kc ≤ mc ∧ ks ≤ ms → w_G_hang_56 z mi mc ms post kc ks g this v1 v2 v3 v4 → WP D cA sz g H → va_S (oA sz) s.heap H locs → lv_has ls 6 [(0, .ref this), (1, .int v1), (2, .int v2), (3, .int v3), (4, .int v4)] → W p l e ({ frames := 1, cells := mc, slots := ms, locals := 22 } : Room) s m args below meth c H locs kc ks (MQ below (Qg D cA sz (pV post)) args s mc ms (oA sz)) (F0 m 56 ls []) := by
  obtain ⟨hx, hb, hml, hown, hts⟩ := id S
  intro kc ks g this v1 v2 v3 v4 H locs ls hk h hG hS hl
  refine lv_iload hx hb d_G_hang_56 (lv_at hl 4 rfl) ?_
  refine lv_if_lt (tgt := 83) hx hb d_G_hang_58 (by decide) (fun c9 => ?_) (fun c9 => ?_)
  · replace h := h.1 c9
    refine lv_aload_n hx hb d_G_hang_83 rfl (lv_at hl 0 rfl) ?_
    refine r_getR (f := 42) S hZ hG rfl h.1 (hts _ tw_721) (fun _ h9 => h9) d_G_hang_84 (fun o27 e9 => ?_)
    replace h := h.2 o27 e9
    refine lv_iload_n hx hb d_G_hang_87 rfl (lv_at hl 1 rfl) ?_
    refine lv_iload_n hx hb d_G_hang_88 rfl (lv_at hl 3 rfl) ?_
    obtain ⟨a28, e9, h⟩ := h
    subst e9
    obtain ⟨j29, h9, h⟩ := h
    refine r_iast S hZ hG hS h9 d_G_hang_89 (fun g30 H locs e9 hG hS => ?_)
    replace h := h g30 e9
    refine lv_iload_n hx hb d_G_hang_90 rfl (lv_at hl 2 rfl) ?_
    refine lv_if_ge (tgt := 102) hx hb d_G_hang_91 (by decide) (fun c9 => ?_) (fun c9 => ?_)
    · replace h := h.1 c9
      refine lv_aload_n hx hb d_G_hang_102 rfl (lv_at hl 0 rfl) ?_
      refine r_getR (f := 45) S hZ hG rfl h.1 (hts _ tw_724) (fun _ h9 => h9) d_G_hang_103 (fun o31 e9 => ?_)
      replace h := h.2 o31 e9
      refine lv_iload_n hx hb d_G_hang_106 rfl (lv_at hl 1 rfl) ?_
      obtain ⟨a32, e9, h⟩ := h
      subst e9
      obtain ⟨j33, h9, h⟩ := h
      refine r_zald S hZ hG h9 d_G_hang_107 (fun x34 e9 => ?_)
      replace h := h x34 e9
      refine lv_if_eq (tgt := 121) hx hb d_G_hang_108 (by decide) (fun c9 => ?_) (fun c9 => ?_)
      · replace h := h.1 c9
        refine lv_aload_n hx hb d_G_hang_121 rfl (lv_at hl 0 rfl) ?_
        refine r_getR (f := 43) S hZ hG rfl h.1 (hts _ tw_722) (fun _ h9 => h9) d_G_hang_122 (fun o35 e9 => ?_)
        replace h := h.2 o35 e9
        refine lv_iload_n hx hb d_G_hang_125 rfl (lv_at hl 2 rfl) ?_
        refine lv_iload_n hx hb d_G_hang_126 rfl (lv_at hl 1 rfl) ?_
        obtain ⟨a36, e9, h⟩ := h
        subst e9
        obtain ⟨j37, h9, h⟩ := h
        refine r_iast S hZ hG hS h9 d_G_hang_127 (fun g38 H locs e9 hG hS => ?_)
        replace h := h g38 e9
        exact r_vret S hr hlk hG hS h hk.1 hk.2 d_G_hang_128
      · replace h := h.2 c9
        refine lv_aload_n hx hb d_G_hang_111 rfl (lv_at hl 0 rfl) ?_
        refine r_getR (f := 44) S hZ hG rfl h.1 (hts _ tw_723) (fun _ h9 => h9) d_G_hang_112 (fun o39 e9 => ?_)
        replace h := h.2 o39 e9
        refine lv_iload_n hx hb d_G_hang_115 rfl (lv_at hl 2 rfl) ?_
        refine lv_iload_n hx hb d_G_hang_116 rfl (lv_at hl 1 rfl) ?_
        obtain ⟨a40, e9, h⟩ := h
        subst e9
        obtain ⟨j41, h9, h⟩ := h
        refine r_iast S hZ hG hS h9 d_G_hang_117 (fun g42 H locs e9 hG hS => ?_)
        replace h := h g42 e9
        refine lv_goto (tgt := 128) hx hb d_G_hang_118 (by decide) ?_
        exact r_vret S hr hlk hG hS h hk.1 hk.2 d_G_hang_128
    · replace h := h.2 c9
      refine lv_aload_n hx hb d_G_hang_94 rfl (lv_at hl 0 rfl) ?_
      refine lv_iload_n hx hb d_G_hang_95 rfl (lv_at hl 1 rfl) ?_
      refine r_putI (f := 46) S hZ hG hS rfl h.1 (hts _ tw_725) (fun _ h9 => h9) (Or.inl rfl) d_G_hang_96 (fun g43 H locs e9 hG hS => ?_)
      replace h := h.2 g43 e9
      refine lv_goto (tgt := 128) hx hb d_G_hang_99 (by decide) ?_
      exact r_vret S hr hlk hG hS h hk.1 hk.2 d_G_hang_128
  · replace h := h.2 c9
    refine lv_aload_n hx hb d_G_hang_61 rfl (lv_at hl 0 rfl) ?_
    refine r_getR (f := 42) S hZ hG rfl h.1 (hts _ tw_721) (fun _ h9 => h9) d_G_hang_62 (fun o44 e9 => ?_)
    replace h := h.2 o44 e9
    refine lv_iload_n hx hb d_G_hang_65 rfl (lv_at hl 1 rfl) ?_
    refine lv_aload_n hx hb d_G_hang_66 rfl (lv_at hl 0 rfl) ?_
    refine r_getR (f := 42) S hZ hG rfl h.1 (hts _ tw_721) (fun _ h9 => h9) d_G_hang_67 (fun o45 e9 => ?_)
    replace h := h.2 o45 e9
    refine lv_iload hx hb d_G_hang_70 (lv_at hl 4 rfl) ?_
    obtain ⟨a46, e9, h⟩ := h
    subst e9
    obtain ⟨j47, h9, h⟩ := h
    refine r_iald S hZ hG h9 d_G_hang_72 (fun x48 e9 => ?_)
    replace h := h x48 e9
    obtain ⟨a49, e9, h⟩ := h
    subst e9
    obtain ⟨j50, h9, h⟩ := h
    refine r_iast S hZ hG hS h9 d_G_hang_73 (fun g51 H locs e9 hG hS => ?_)
    replace h := h g51 e9
    refine lv_aload_n hx hb d_G_hang_74 rfl (lv_at hl 0 rfl) ?_
    refine r_getR (f := 42) S hZ hG rfl h.1 (hts _ tw_721) (fun _ h9 => h9) d_G_hang_75 (fun o52 e9 => ?_)
    replace h := h.2 o52 e9
    refine lv_iload hx hb d_G_hang_78 (lv_at hl 4 rfl) ?_
    refine lv_iload_n hx hb d_G_hang_80 rfl (lv_at hl 1 rfl) ?_
    obtain ⟨a53, e9, h⟩ := h
    subst e9
    obtain ⟨j54, h9, h⟩ := h
    refine r_iast S hZ hG hS h9 d_G_hang_81 (fun g55 H locs e9 hG hS => ?_)
    replace h := h g55 e9
    exact r_vret S hr hlk hG hS h hk.1 hk.2 d_G_hang_82
def w_G_hang_25 (z mi mc ms : Nat) (post : Sg → Prop) : Nat → Nat → Nat → Sg → Nat → Int32 → Int32 → Int32 → Int32 → Int32 → Prop
  | 0 => fun _ _ _ _ _ _ _ _ _ => False
  | n + 1 => fun kc ks g this v1 v2 v3 v4 v5 => (v5 < 0 → w_G_hang_56 z mi mc ms post kc ks g this v1 v2 v3 v4) ∧ (¬ v5 < 0 → (isK g this [5] ∧ ∃ c56 c57 : Nat, kc + c56 ≤ mc ∧ ks + c57 ≤ ms ∧ w_G_isLess z mi c56 c57 (fun (x59 : Int32) (g58 : Sg) => (x59 = 0 → w_G_hang_56 z mi mc ms post (kc + c56) (ks + c57) g58 this v1 v2 v3 v4) ∧ (¬ x59 = 0 → (hasR g58 this 42 ∧ ∀ o61 : Option Nat, o61 = fR g58 42 this → ∃ a62, o61 = some a62 ∧ (∃ j63 : Nat, inA g58 a62 100 v5 j63 ∧ ∀ x64 : Int32, x64 = aI g58 a62 j63 → w_G_hang_25 z mi mc ms post n (kc + c56) (ks + c57) g58 this v1 v2 v3 v5 x64)))) g this v5 v1))
set_option maxHeartbeats 4000000 in
set_option maxRecDepth 100000 in
theorem s_G_hang_25 {p : Program} {l : Launch} {e : Env} {s : State} {m : MethodId} {args : Array Value} {below : List Frame} {meth : Method} {c : Code} {D : va_G} {cA : Nat → ClassId} {sz z mi mc ms : Nat} {post : Sg → Prop} (S : CallFix p m c b_G_hang 6 s args TBL "WeaveCoreModel$Graph") (hZ : Ws D cA sz z mi s) (hr : meth.sig.returnType = none) (hlk : meth.locks = false) :
    ∀ n : Nat, ∀ (kc ks : Nat) (g : Sg) (this : Nat) (v1 : Int32) (v2 : Int32) (v3 : Int32) (v4 : Int32) (v5 : Int32) (H : Heap) (locs : List Loc) (ls : Array Slot), kc ≤ mc ∧ ks ≤ ms → w_G_hang_25 z mi mc ms post n kc ks g this v1 v2 v3 v4 v5 → WP D cA sz g H → va_S (oA sz) s.heap H locs → lv_has ls 6 [(0, .ref this), (1, .int v1), (2, .int v2), (3, .int v3), (4, .int v4), (5, .int v5)] → W p l e ({ frames := 1, cells := mc, slots := ms, locals := 22 } : Room) s m args below meth c H locs kc ks (MQ below (Qg D cA sz (pV post)) args s mc ms (oA sz)) (F0 m 25 ls []) := by
  obtain ⟨hx, hb, hml, hown, hts⟩ := id S
  intro n
  induction n with
  | zero =>
    intro kc ks g this v1 v2 v3 v4 v5 H locs ls hk h hG hS hl
    exact h.elim
  | succ n ih =>
    intro kc ks g this v1 v2 v3 v4 v5 H locs ls hk h hG hS hl
    refine lv_iload hx hb d_G_hang_25 (lv_at hl 5 rfl) ?_
    refine lv_if_lt (tgt := 56) hx hb d_G_hang_27 (by decide) (fun c9 => ?_) (fun c9 => ?_)
    · replace h := h.1 c9
      exact s_G_hang_56 S hZ hr hlk _ _ _ _ _ _ _ _ _ _ _ hk h hG hS (lv_sub hl [0, 1, 2, 3, 4] rfl)
    · replace h := h.2 c9
      refine lv_aload_n hx hb d_G_hang_30 rfl (lv_at hl 0 rfl) ?_
      refine lv_iload hx hb d_G_hang_31 (lv_at hl 5 rfl) ?_
      refine lv_iload_n hx hb d_G_hang_33 rfl (lv_at hl 1 rfl) ?_
      obtain ⟨h9, h⟩ := h
      obtain ⟨c56, c57, k1, k2, h⟩ := h
      obtain ⟨n9, h9⟩ := isK1 h9
      refine q_callI (run_V (As := [.int v5, .int v1]) (rest := []) S hZ hG hS (s_G_isLess h) tw_852 tw_849 tw_850 tw_851 tw_9 nk_G_isLess h9 (by decide) rfl ⟨Nat.le_of_ble_eq_true rfl, Nat.le_of_ble_eq_true rfl⟩ rfl hl.1 rfl (by decide) d_G_hang_34 ⟨k1, k2⟩) hS (fun x59 g58 H locs h66 hG hS => ?_)
      have hk := And.intro k1 k2
      replace h := h66
      refine lv_if_eq (tgt := 56) hx hb d_G_hang_37 (by decide) (fun c9 => ?_) (fun c9 => ?_)
      · replace h := h.1 c9
        exact s_G_hang_56 S hZ hr hlk _ _ _ _ _ _ _ _ _ _ _ hk h hG hS (lv_sub hl [0, 1, 2, 3, 4] rfl)
      · replace h := h.2 c9
        refine lv_iload hx hb d_G_hang_40 (lv_at hl 5 rfl) ?_
        refine q_istore (lv' := [(4, .int v5), (0, .ref this), (1, .int v1), (2, .int v2), (3, .int v3), (5, .int v5)]) hx hb d_G_hang_42 hl (by decide) (.n (.k 0 rfl (by decide) (by decide) (.k 1 rfl (by decide) (by decide) (.k 2 rfl (by decide) (by decide) (.c 3 rfl (by decide) rfl (.k 5 rfl (by decide) (by decide) .e)))))) (fun ls60 hl60 => ?_)
        refine lv_aload_n hx hb d_G_hang_44 rfl (lv_at hl60 1 rfl) ?_
        refine r_getR (f := 42) S hZ hG rfl h.1 (hts _ tw_721) (fun _ h9 => h9) d_G_hang_45 (fun o61 e9 => ?_)
        replace h := h.2 o61 e9
        refine lv_iload hx hb d_G_hang_48 (lv_at hl60 5 rfl) ?_
        obtain ⟨a62, e9, h⟩ := h
        subst e9
        obtain ⟨j63, h9, h⟩ := h
        refine r_iald S hZ hG h9 d_G_hang_50 (fun x64 e9 => ?_)
        replace h := h x64 e9
        refine q_istore (lv' := [(5, .int x64), (4, .int v5), (0, .ref this), (1, .int v1), (2, .int v2), (3, .int v3)]) hx hb d_G_hang_51 hl60 (by decide) (.n (.c 0 rfl (by decide) rfl (.k 1 rfl (by decide) (by decide) (.k 2 rfl (by decide) (by decide) (.k 3 rfl (by decide) (by decide) (.k 4 rfl (by decide) (by decide) .e)))))) (fun ls65 hl65 => ?_)
        refine lv_goto (tgt := 25) hx hb d_G_hang_53 (by decide) ?_
        exact ih _ _ _ _ _ _ _ _ _ _ _ _ hk h hG hS (lv_sub hl65 [2, 3, 4, 5, 1, 0] rfl)
def w_G_hang (z mi mc ms : Nat) (post : Sg → Prop) (g : Sg) (this : Nat) (p0 : Int32) : Prop := (hasR g this 41 ∧ ∀ o11 : Option Nat, o11 = fR g 41 this → ∃ a12, o11 = some a12 ∧ (∃ j13 : Nat, inA g a12 100 p0 j13 ∧ ∀ x14 : Int32, x14 = aI g a12 j13 → (hasR g this 45 ∧ ∀ o16 : Option Nat, o16 = fR g 45 this → ∃ a17, o16 = some a17 ∧ (∃ j18 : Nat, inA g a17 102 p0 j18 ∧ ∀ x19 : Int32, x19 = aI g a17 j18 → (isK g this [5] ∧ ∃ c20 c21 : Nat, 0 + c20 ≤ mc ∧ 0 + c21 ≤ ms ∧ w_G_childrenOf z mi c20 c21 (fun (x23 : Int32) (g22 : Sg) => (∃ n67 : Nat, w_G_hang_25 z mi mc ms post n67 (0 + c20) (0 + c21) g22 this p0 x14 x23 (-1 : Int32) x23)) g this x14 x19)))))
set_option maxHeartbeats 4000000 in
set_option maxRecDepth 100000 in
theorem s_G_hang {l : Launch} {D : va_G} {cA : Nat → ClassId} {sz z mi mc ms : Nat} {g : Sg} {post : Sg → Prop} {this : Nat} {p0 : Int32} (h : w_G_hang z mi mc ms post g this p0) : Met l y_G_hang (Cond.code y_G_hang b_G_hang 6 none :: TBL) ({ frames := 1, cells := mc, slots := ms, locals := 22 } : Room) (Pg D cA sz z mi [.ref this, .int p0] g) (Qg D cA sz (pV post)) mc ms (oA sz) := by
  refine m_code (lv := [(0, .ref this), (1, .int p0)]) (by decide +kernel) (Nat.le_of_ble_eq_true rfl) rfl ?_
  intro p e s m below meth c ls S hr hlk hnm hZ hG hS hl
  obtain ⟨hx, hb, hml, hown, hts⟩ := id S
  have hk : 0 ≤ mc ∧ 0 ≤ ms := ⟨Nat.zero_le _, Nat.zero_le _⟩
  refine lv_aload_n hx hb d_G_hang_0 rfl (lv_at hl 0 rfl) ?_
  refine r_getR (f := 41) S hZ hG rfl h.1 (hts _ tw_720) (fun _ h9 => h9) d_G_hang_1 (fun o11 e9 => ?_)
  replace h := h.2 o11 e9
  refine lv_iload_n hx hb d_G_hang_4 rfl (lv_at hl 1 rfl) ?_
  obtain ⟨a12, e9, h⟩ := h
  subst e9
  obtain ⟨j13, h9, h⟩ := h
  refine r_iald S hZ hG h9 d_G_hang_5 (fun x14 e9 => ?_)
  replace h := h x14 e9
  refine q_istore_n (lv' := [(2, .int x14), (0, .ref this), (1, .int p0)]) hx hb d_G_hang_6 rfl hl (by decide) (.n (.k 0 rfl (by decide) (by decide) (.c 1 rfl (by decide) rfl .e))) (fun ls15 hl15 => ?_)
  refine lv_aload_n hx hb d_G_hang_7 rfl (lv_at hl15 1 rfl) ?_
  refine lv_iload_n hx hb d_G_hang_8 rfl (lv_at hl15 0 rfl) ?_
  refine lv_aload_n hx hb d_G_hang_9 rfl (lv_at hl15 1 rfl) ?_
  refine r_getR (f := 45) S hZ hG rfl h.1 (hts _ tw_724) (fun _ h9 => h9) d_G_hang_10 (fun o16 e9 => ?_)
  replace h := h.2 o16 e9
  refine lv_iload_n hx hb d_G_hang_13 rfl (lv_at hl15 2 rfl) ?_
  obtain ⟨a17, e9, h⟩ := h
  subst e9
  obtain ⟨j18, h9, h⟩ := h
  refine r_zald S hZ hG h9 d_G_hang_14 (fun x19 e9 => ?_)
  replace h := h x19 e9
  obtain ⟨h9, h⟩ := h
  obtain ⟨c20, c21, k1, k2, h⟩ := h
  obtain ⟨n9, h9⟩ := isK1 h9
  refine q_callI (run_V (As := [.int x14, .int x19]) (rest := []) S hZ hG hS (s_G_childrenOf h) tw_937 tw_934 tw_936 tp_43 tw_9 nk_G_childrenOf h9 (by decide) rfl ⟨Nat.le_of_ble_eq_true rfl, Nat.le_of_ble_eq_true rfl⟩ rfl hl15.1 rfl (by decide) d_G_hang_15 ⟨k1, k2⟩) hS (fun x23 g22 H locs h68 hG hS => ?_)
  have hk := And.intro k1 k2
  replace h := h68
  refine q_istore_n (lv' := [(3, .int x23), (2, .int x14), (0, .ref this), (1, .int p0)]) hx hb d_G_hang_18 rfl hl15 (by decide) (.n (.c 0 rfl (by decide) rfl (.k 1 rfl (by decide) (by decide) (.k 2 rfl (by decide) (by decide) .e)))) (fun ls24 hl24 => ?_)
  refine lv_iconst (v := (-1 : Int32)) hx hb d_G_hang_19 (by decide) ?_
  refine q_istore (lv' := [(4, .int ((-1 : Int32))), (3, .int x23), (2, .int x14), (0, .ref this), (1, .int p0)]) hx hb d_G_hang_20 hl24 (by decide) (.n (.c 0 rfl (by decide) rfl (.k 1 rfl (by decide) (by decide) (.k 2 rfl (by decide) (by decide) (.k 3 rfl (by decide) (by decide) .e))))) (fun ls25 hl25 => ?_)
  refine lv_iload_n hx hb d_G_hang_22 rfl (lv_at hl25 1 rfl) ?_
  refine q_istore (lv' := [(5, .int x23), (4, .int ((-1 : Int32))), (3, .int x23), (2, .int x14), (0, .ref this), (1, .int p0)]) hx hb d_G_hang_23 hl25 (by decide) (.n (.c 0 rfl (by decide) rfl (.k 1 rfl (by decide) (by decide) (.k 2 rfl (by decide) (by decide) (.k 3 rfl (by decide) (by decide) (.k 4 rfl (by decide) (by decide) .e)))))) (fun ls26 hl26 => ?_)
  obtain ⟨n67, h⟩ := h
  exact s_G_hang_25 S hZ hr hlk n67 _ _ _ _ _ _ _ _ _ _ _ _ hk h hG hS (lv_sub hl26 [4, 5, 3, 2, 1, 0] rfl)
