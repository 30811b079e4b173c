def w_M_was (z mi mc ms : Nat) (post : Int32 → Sg → Prop) (g : Sg) (this : Nat) (p0 : Int32) : Prop := (hasI g this 56 ∧ ∀ g11 : Sg, g11 = wI g 56 this (0 : Int32) → (isK g11 this [6] ∧ ∃ c12 c13 : Nat, 0 + c12 ≤ mc ∧ 0 + c13 ≤ ms ∧ w_M_was0 z mi c12 c13 (fun (x15 : Int32) (g14 : Sg) => post x15 g14) (fun (i16 : Nat) (g17 : Sg) => (i16 = 4 ∧ (hasI g17 this 56 ∧ ∀ g20 : Sg, g20 = wI g17 56 this (1 : Int32) → post (0 : Int32) g20))) g11 this p0))
set_option maxHeartbeats 4000000 in
set_option maxRecDepth 100000 in
theorem s_M_was {l : Launch} {D : va_G} {cA : Nat → ClassId} {sz z mi mc ms : Nat} {g : Sg} {post : Int32 → Sg → Prop} {this : Nat} {p0 : Int32} (hst : l.stackTraces = false) (h : w_M_was z mi mc ms post g this p0) : Met l y_M_was (Cond.codeWith y_M_was b_M_was 3 (some FieldType.int) [(5, 10, 11, 110)] :: TBL) ({ frames := 7, cells := mc, slots := ms, locals := 113 } : Room) (Pg D cA sz z mi [.ref this, .int p0] g) (Qg D cA sz (pI post)) mc ms (oA sz) := by
  refine m_codeW (lv := [(0, .ref this), (1, .int p0)]) (by decide +kernel) (Nat.le_of_ble_eq_true rfl) rfl ?_
  intro p e s m below meth c ls htb S hr hlk hnm hZ hG hS hl
  obtain ⟨hx, hb, hml, hown, hts⟩ := id S
  have hk : 0 ≤ mc ∧ 0 ≤ ms := ⟨Nat.zero_le _, Nat.zero_le _⟩
  refine lv_aload_n hx hb d_M_was_0 rfl (lv_at hl 0 rfl) ?_
  refine lv_iconst (v := (0 : Int32)) hx hb d_M_was_1 (by decide) ?_
  refine r_putI (f := 56) S hZ hG hS rfl h.1 (hts _ tw_785) (fun _ h9 => h9) (Or.inl rfl) d_M_was_2 (fun g11 H locs e9 hG hS => ?_)
  replace h := h.2 g11 e9
  refine lv_aload_n hx hb d_M_was_5 rfl (lv_at hl 0 rfl) ?_
  refine lv_iload_n hx hb d_M_was_6 rfl (lv_at hl 1 rfl) ?_
  obtain ⟨h9, h⟩ := h
  obtain ⟨c12, c13, k1, k2, h⟩ := h
  obtain ⟨n9, h9⟩ := isK1 h9
  refine x_callI (xrun_V (As := [.int p0]) (rest := []) S hZ hG hS (s_M_was0 hst h) tw_1023 tw_1020 tw_1022 tp_54 tw_8 nk_M_was0 h9 (by decide) rfl ⟨Nat.le_of_ble_eq_true rfl, Nat.le_of_ble_eq_true rfl⟩ rfl hl.1 rfl (by decide) d_M_was_7 ⟨k1, k2⟩) hS (fun i9 ce q9 g17 H locs hi h22 hG hS hq1 hq2 hq3 => ?_) (fun x15 g14 H locs h21 hG hS => ?_)
  · have hk := And.intro k1 k2
    replace h := h22
    obtain ⟨rfl, h⟩ := h
    refine r_catch (i := 4) S hZ (by decide) [] ⟨5, 10, 11, 110⟩ [] htb (fun y hy => nomatch hy) (by decide) (by decide) tw_886 hq1 hq2 hq3 ?_
    refine q_astore_n (o := (some q9)) (lv' := [(0, .ref this), (1, .int p0)]) hx hb d_M_was_11 rfl hl (by decide) (.k 0 rfl (by decide) (by decide) (.c 1 rfl (by decide) rfl .e)) (fun ls19 hl19 => ?_)
    refine lv_aload_n hx hb d_M_was_12 rfl (lv_at hl19 0 rfl) ?_
    refine lv_iconst (v := (1 : Int32)) hx hb d_M_was_13 (by decide) ?_
    refine r_putI (f := 56) S hZ hG hS rfl h.1 (hts _ tw_785) (fun _ h9 => h9) (Or.inl rfl) d_M_was_14 (fun g20 H locs e9 hG hS => ?_)
    replace h := h.2 g20 e9
    refine lv_iconst (v := (0 : Int32)) hx hb d_M_was_17 (by decide) ?_
    exact r_iret (v := (0 : Int32)) S hr hlk hG hS h hk.1 hk.2 d_M_was_18
  · have hk := And.intro k1 k2
    replace h := h21
    exact r_iret (v := x15) S hr hlk hG hS h hk.1 hk.2 d_M_was_10
def w_M_wasAt0_28 (z mi mc ms : Nat) (post : Int32 → Sg → Prop) (px : Nat → Sg → Prop) : Nat → Nat → Nat → Sg → Nat → Int32 → Int32 → Int32 → Prop
  | 0 => fun _ _ _ _ _ _ _ => False
  | n + 1 => fun kc ks g this v1 v3 v4 => (hasR g this 51 ∧ ∀ o20 : Option Nat, o20 = fR g 51 this → ∃ a21, o20 = some a21 ∧ (hasI g a21 31 ∧ ∀ x22 : Int32, x22 = fI g 31 a21 → (x22 ≤ v4 → kc + 1 ≤ mc ∧ ks + 6 ≤ ms ∧ px 4 g) ∧ (¬ x22 ≤ v4 → (v3 < 0 → kc + 1 ≤ mc ∧ ks + 6 ≤ ms ∧ px 4 g) ∧ (¬ v3 < 0 → (hasR g this 51 ∧ ∀ o23 : Option Nat, o23 = fR g 51 this → ∃ a24, o23 = some a24 ∧ (hasR g a24 50 ∧ ∀ o25 : Option Nat, o25 = fR g 50 a24 → ∃ a26, o25 = some a26 ∧ (∃ j27 : Nat, inA g a26 100 v4 j27 ∧ ∀ x28 : Int32, x28 = aI g a26 j27 → (isK g this [6] ∧ ∃ c29 c30 : Nat, kc + c29 ≤ mc ∧ ks + c30 ≤ ms ∧ w_M_stood z mi c29 c30 (fun (x32 : Int32) (g31 : Sg) => (¬ x32 = 0 → (¬ v3 = 0 → w_M_wasAt0_28 z mi mc ms post px n (kc + c29) (ks + c30) g31 this v1 (v3 + (-1 : Int32)) (v4 + (1 : Int32))) ∧ (v3 = 0 → (hasR g31 this 51 ∧ ∀ o35 : Option Nat, o35 = fR g31 51 this → ∃ a36, o35 = some a36 ∧ (hasR g31 a36 40 ∧ ∀ o37 : Option Nat, o37 = fR g31 40 a36 → (hasR g31 this 51 ∧ ∀ o38 : Option Nat, o38 = fR g31 51 this → ∃ a39, o38 = some a39 ∧ (hasR g31 a39 50 ∧ ∀ o40 : Option Nat, o40 = fR g31 50 a39 → ∃ a41, o40 = some a41 ∧ (∃ j42 : Nat, inA g31 a41 100 v4 j42 ∧ ∀ x43 : Int32, x43 = aI g31 a41 j42 → ∃ a44, o37 = some a44 ∧ (∃ j45 : Nat, inA g31 a44 100 x43 j45 ∧ ∀ x46 : Int32, x46 = aI g31 a44 j45 → post x46 g31)))))))) ∧ (x32 = 0 → w_M_wasAt0_28 z mi mc ms post px n (kc + c29) (ks + c30) g31 this v1 v3 (v4 + (1 : Int32)))) g this x28 v1))))))))
set_option maxHeartbeats 4000000 in
set_option maxRecDepth 100000 in
theorem s_M_wasAt0_28 {p : Program} {l : Launch} {e : Env} {s : State} {m : MethodId} {args : Array Value} {below : List Frame} {meth : Method} {c : Code} {D : va_G} {cA : Nat → ClassId} {sz z mi mc ms : Nat} {post : Int32 → Sg → Prop} {px : Nat → Sg → Prop} (S : CallFix p m c b_M_wasAt0 5 s args TBL "WeaveCoreModel") (hst : l.stackTraces = false) (hZ : Ws D cA sz z mi s) (hr : meth.sig.returnType = (some FieldType.int)) (hlk : meth.locks = false) (hxt : ∀ x ∈ c.exceptionTable.toList, False) :
    ∀ n : Nat, ∀ (kc ks : Nat) (g : Sg) (this : Nat) (v1 : Int32) (v3 : Int32) (v4 : Int32) (H : Heap) (locs : List Loc) (ls : Array Slot), kc ≤ mc ∧ ks ≤ ms → w_M_wasAt0_28 z mi mc ms post px n kc ks g this v1 v3 v4 → WP D cA sz g H → va_S (oA sz) s.heap H locs → lv_has ls 5 [(0, .ref this), (1, .int v1), (3, .int v3), (4, .int v4)] → W p l e ({ frames := 6, cells := mc, slots := ms, locals := 90 } : Room) s m args below meth c H locs kc ks (vx_MQ below (Qg D cA sz (pI post)) (Xg D cA sz px) args s mc ms (oA sz)) (F0 m 28 ls []) := by
  obtain ⟨hx, hb, hml, hown, hts⟩ := id S
  intro n
  induction n with
  | zero =>
    intro kc ks g this v1 v3 v4 H locs ls hk h hG hS hl
    exact h.elim
  | succ n ih =>
    intro kc ks g this v1 v3 v4 H locs ls hk h hG hS hl
    refine lv_iload hx hb d_M_wasAt0_28 (lv_at hl 3 rfl) ?_
    refine lv_aload_n hx hb d_M_wasAt0_30 rfl (lv_at hl 0 rfl) ?_
    refine r_getR (f := 51) S hZ hG rfl h.1 (hts _ tw_780) (fun _ h9 => h9) d_M_wasAt0_31 (fun o20 e9 => ?_)
    replace h := h.2 o20 e9
    obtain ⟨a21, e9, h⟩ := h
    subst e9
    refine r_getI (f := 31) S hZ hG rfl h.1 (hts _ tw_703) (fun _ h9 => h9) d_M_wasAt0_34 (fun x22 e9 => ?_)
    replace h := h.2 x22 e9
    refine lv_icmp_ge (tgt := 97) hx hb d_M_wasAt0_37 (by decide) (fun c9 => ?_) (fun c9 => ?_)
    · replace h := h.1 c9
      exact r_throw (i := 4) S hst hZ hG hS (by decide) tw_886 tw_21 xa_M_110_112 xb_M_110_112 xo_M_110_112 hl.1 d_M_wasAt0_97 d_M_wasAt0_100 d_M_wasAt0_101 d_M_wasAt0_104 (fun x hx => (hxt x hx).elim) (Nat.le_of_ble_eq_true rfl) (Nat.le_of_ble_eq_true rfl) rfl rfl hlk h.2.2 h.1 h.2.1
    · replace h := h.2 c9
      refine lv_iload_n hx hb d_M_wasAt0_40 rfl (lv_at hl 2 rfl) ?_
      refine lv_if_lt (tgt := 97) hx hb d_M_wasAt0_41 (by decide) (fun c9 => ?_) (fun c9 => ?_)
      · replace h := h.1 c9
        exact r_throw (i := 4) S hst hZ hG hS (by decide) tw_886 tw_21 xa_M_110_112 xb_M_110_112 xo_M_110_112 hl.1 d_M_wasAt0_97 d_M_wasAt0_100 d_M_wasAt0_101 d_M_wasAt0_104 (fun x hx => (hxt x hx).elim) (Nat.le_of_ble_eq_true rfl) (Nat.le_of_ble_eq_true rfl) rfl rfl hlk h.2.2 h.1 h.2.1
      · replace h := h.2 c9
        refine lv_aload_n hx hb d_M_wasAt0_44 rfl (lv_at hl 0 rfl) ?_
        refine lv_aload_n hx hb d_M_wasAt0_45 rfl (lv_at hl 0 rfl) ?_
        refine r_getR (f := 51) S hZ hG rfl h.1 (hts _ tw_780) (fun _ h9 => h9) d_M_wasAt0_46 (fun o23 e9 => ?_)
        replace h := h.2 o23 e9
        obtain ⟨a24, e9, h⟩ := h
        subst e9
        refine r_getR (f := 50) S hZ hG rfl h.1 (hts _ tw_732) (fun _ h9 => h9) d_M_wasAt0_49 (fun o25 e9 => ?_)
        replace h := h.2 o25 e9
        refine lv_iload hx hb d_M_wasAt0_52 (lv_at hl 3 rfl) ?_
        obtain ⟨a26, e9, h⟩ := h
        subst e9
        obtain ⟨j27, h9, h⟩ := h
        refine r_iald S hZ hG h9 d_M_wasAt0_54 (fun x28 e9 => ?_)
        replace h := h x28 e9
        refine lv_iload_n hx hb d_M_wasAt0_55 rfl (lv_at hl 1 rfl) ?_
        obtain ⟨h9, h⟩ := h
        obtain ⟨c29, c30, k1, k2, h⟩ := h
        obtain ⟨n9, h9⟩ := isK1 h9
        refine q_callI (run_V (As := [.int x28, .int v1]) (rest := []) S hZ hG hS (s_M_stood h) tw_1027 tw_1024 tw_1026 tp_55 tw_8 nk_M_stood h9 (by decide) rfl ⟨Nat.le_of_ble_eq_true rfl, Nat.le_of_ble_eq_true rfl⟩ rfl hl.1 rfl (by decide) d_M_wasAt0_56 ⟨k1, k2⟩) hS (fun x32 g31 H locs h48 hG hS => ?_)
        have hk := And.intro k1 k2
        replace h := h48
        refine lv_if_ne (tgt := 65) hx hb d_M_wasAt0_59 (by decide) (fun c9 => ?_) (fun c9 => ?_)
        · replace h := h.1 c9
          refine lv_iload_n hx hb d_M_wasAt0_65 rfl (lv_at hl 2 rfl) ?_
          refine lv_if_ne (tgt := 88) hx hb d_M_wasAt0_66 (by decide) (fun c9 => ?_) (fun c9 => ?_)
          · replace h := h.1 c9
            refine q_iinc (k := 2) (v := v3 + (-1 : Int32)) (lv' := [(3, .int (v3 + (-1 : Int32))), (0, .ref this), (1, .int v1), (4, .int v4)]) hx hb d_M_wasAt0_88 hl rfl rfl (by decide) (.n (.k 0 rfl (by decide) (by decide) (.k 1 rfl (by decide) (by decide) (.k 3 rfl (by decide) (by decide) .e)))) (fun ls33 hl33 => ?_)
            refine q_iinc (k := 3) (v := v4 + (1 : Int32)) (lv' := [(4, .int (v4 + (1 : Int32))), (3, .int (v3 + (-1 : Int32))), (0, .ref this), (1, .int v1)]) hx hb d_M_wasAt0_91 hl33 rfl rfl (by decide) (.n (.c 0 rfl (by decide) rfl (.k 1 rfl (by decide) (by decide) (.k 2 rfl (by decide) (by decide) .e)))) (fun ls34 hl34 => ?_)
            refine lv_goto (tgt := 28) hx hb d_M_wasAt0_94 (by decide) ?_
            exact ih _ _ _ _ _ _ _ _ _ _ hk h hG hS (lv_sub hl34 [2, 3, 1, 0] rfl)
          · replace h := h.2 c9
            refine lv_aload_n hx hb d_M_wasAt0_69 rfl (lv_at hl 0 rfl) ?_
            refine r_getR (f := 51) S hZ hG rfl h.1 (hts _ tw_780) (fun _ h9 => h9) d_M_wasAt0_70 (fun o35 e9 => ?_)
            replace h := h.2 o35 e9
            obtain ⟨a36, e9, h⟩ := h
            subst e9
            refine r_getR (f := 40) S hZ hG rfl h.1 (hts _ tw_719) (fun _ h9 => h9) d_M_wasAt0_73 (fun o37 e9 => ?_)
            replace h := h.2 o37 e9
            refine lv_aload_n hx hb d_M_wasAt0_76 rfl (lv_at hl 0 rfl) ?_
            refine r_getR (f := 51) S hZ hG rfl h.1 (hts _ tw_780) (fun _ h9 => h9) d_M_wasAt0_77 (fun o38 e9 => ?_)
            replace h := h.2 o38 e9
            obtain ⟨a39, e9, h⟩ := h
            subst e9
            refine r_getR (f := 50) S hZ hG rfl h.1 (hts _ tw_732) (fun _ h9 => h9) d_M_wasAt0_80 (fun o40 e9 => ?_)
            replace h := h.2 o40 e9
            refine lv_iload hx hb d_M_wasAt0_83 (lv_at hl 3 rfl) ?_
            obtain ⟨a41, e9, h⟩ := h
            subst e9
            obtain ⟨j42, h9, h⟩ := h
            refine r_iald S hZ hG h9 d_M_wasAt0_85 (fun x43 e9 => ?_)
            replace h := h x43 e9
            obtain ⟨a44, e9, h⟩ := h
            subst e9
            obtain ⟨j45, h9, h⟩ := h
            refine r_iald S hZ hG h9 d_M_wasAt0_86 (fun x46 e9 => ?_)
            replace h := h x46 e9
            exact vx_ret (r_iret (v := x46) S hr hlk hG hS h hk.1 hk.2 d_M_wasAt0_87)
        · replace h := h.2 c9
          refine lv_goto (tgt := 91) hx hb d_M_wasAt0_62 (by decide) ?_
          refine q_iinc (k := 3) (v := v4 + (1 : Int32)) (lv' := [(4, .int (v4 + (1 : Int32))), (0, .ref this), (1, .int v1), (3, .int v3)]) hx hb d_M_wasAt0_91 hl rfl rfl (by decide) (.n (.k 0 rfl (by decide) (by decide) (.k 1 rfl (by decide) (by decide) (.c 2 rfl (by decide) rfl .e)))) (fun ls47 hl47 => ?_)
          refine lv_goto (tgt := 28) hx hb d_M_wasAt0_94 (by decide) ?_
          exact ih _ _ _ _ _ _ _ _ _ _ hk h hG hS (lv_sub hl47 [1, 2, 3, 0] rfl)
def w_M_wasAt0 (z mi mc ms : Nat) (post : Int32 → Sg → Prop) (px : Nat → Sg → Prop) (g : Sg) (this : Nat) (p0 : Int32) (p1 : Int32) : Prop := (hasR g this 51 ∧ ∀ o11 : Option Nat, o11 = fR g 51 this → ∃ a12, o11 = some a12 ∧ (hasI g a12 29 ∧ ∀ x13 : Int32, x13 = fI g 29 a12 → (∃ c14 c15 : Nat, 0 + c14 ≤ mc ∧ 0 + c15 ≤ ms ∧ w_M_in z mi c14 c15 (fun (x17 : Int32) (g16 : Sg) => (¬ x17 = 0 → (∃ n49 : Nat, w_M_wasAt0_28 z mi mc ms post px n49 (0 + c14) (0 + c15) g16 this p0 p1 (0 : Int32))) ∧ (x17 = 0 → (0 + c14) + 1 ≤ mc ∧ (0 + c15) + 6 ≤ ms ∧ px 4 g16)) g p0 (0 : Int32) x13)))
set_option maxHeartbeats 4000000 in
set_option maxRecDepth 100000 in
theorem s_M_wasAt0 {l : Launch} {D : va_G} {cA : Nat → ClassId} {sz z mi mc ms : Nat} {g : Sg} {post : Int32 → Sg → Prop} {px : Nat → Sg → Prop} {this : Nat} {p0 : Int32} {p1 : Int32} (hst : l.stackTraces = false) (h : w_M_wasAt0 z mi mc ms post px g this p0 p1) : vx_Met l y_M_wasAt0 (Cond.code y_M_wasAt0 b_M_wasAt0 5 (some FieldType.int) :: TBL) ({ frames := 6, cells := mc, slots := ms, locals := 90 } : Room) (Pg D cA sz z mi [.ref this, .int p0, .int p1] g) (Qg D cA sz (pI post)) (Xg D cA sz px) mc ms (oA sz) := by
  refine m_codeX (lv := [(0, .ref this), (1, .int p0), (2, .int p1)]) (by decide +kernel) (Nat.le_of_ble_eq_true rfl) rfl ?_
  intro p e s m below meth c ls hxt S hr hlk hnm hZ hG hS hl
  obtain ⟨hx, hb, hml, hown, hts⟩ := id S
  have hk : 0 ≤ mc ∧ 0 ≤ ms := ⟨Nat.zero_le _, Nat.zero_le _⟩
  refine lv_iload_n hx hb d_M_wasAt0_0 rfl (lv_at hl 1 rfl) ?_
  refine lv_iconst (v := (0 : Int32)) hx hb d_M_wasAt0_1 (by decide) ?_
  refine lv_aload_n hx hb d_M_wasAt0_2 rfl (lv_at hl 0 rfl) ?_
  refine r_getR (f := 51) S hZ hG rfl h.1 (hts _ tw_780) (fun _ h9 => h9) d_M_wasAt0_3 (fun o11 e9 => ?_)
  replace h := h.2 o11 e9
  obtain ⟨a12, e9, h⟩ := h
  subst e9
  refine r_getI (f := 29) S hZ hG rfl h.1 (hts _ tw_698) (fun _ h9 => h9) d_M_wasAt0_6 (fun x13 e9 => ?_)
  replace h := h.2 x13 e9
  obtain ⟨c14, c15, k1, k2, h⟩ := h
  refine q_callI (run_S (As := [.int p0, .int ((0 : Int32)), .int x13]) (rest := []) S hZ hG hS (s_M_in h) tw_893 tw_891 tw_892 tw_8 nk_M_in ⟨Nat.le_of_ble_eq_true rfl, Nat.le_of_ble_eq_true rfl⟩ rfl hl.1 rfl (by decide) d_M_wasAt0_9 ⟨k1, k2⟩) hS (fun x17 g16 H locs h50 hG hS => ?_)
  have hk := And.intro k1 k2
  replace h := h50
  refine lv_if_ne (tgt := 23) hx hb d_M_wasAt0_12 (by decide) (fun c9 => ?_) (fun c9 => ?_)
  · replace h := h.1 c9
    refine lv_iload_n hx hb d_M_wasAt0_23 rfl (lv_at hl 2 rfl) ?_
    refine q_istore_n (lv' := [(3, .int p1), (0, .ref this), (1, .int p0), (2, .int p1)]) hx hb d_M_wasAt0_24 rfl hl (by decide) (.n (.k 0 rfl (by decide) (by decide) (.k 1 rfl (by decide) (by decide) (.c 2 rfl (by decide) rfl .e)))) (fun ls18 hl18 => ?_)
    refine lv_iconst (v := (0 : Int32)) hx hb d_M_wasAt0_25 (by decide) ?_
    refine q_istore (lv' := [(4, .int ((0 : Int32))), (3, .int p1), (0, .ref this), (1, .int p0), (2, .int p1)]) hx hb d_M_wasAt0_26 hl18 (by decide) (.n (.c 0 rfl (by decide) rfl (.k 1 rfl (by decide) (by decide) (.k 2 rfl (by decide) (by decide) (.k 3 rfl (by decide) (by decide) .e))))) (fun ls19 hl19 => ?_)
    obtain ⟨n49, h⟩ := h
    exact s_M_wasAt0_28 S hst hZ hr hlk hxt n49 _ _ _ _ _ _ _ _ _ _ hk h hG hS (lv_sub hl19 [2, 3, 1, 0] rfl)
  · replace h := h.2 c9
    exact r_throw (i := 4) S hst hZ hG hS (by decide) tw_886 tw_21 xa_M_110_112 xb_M_110_112 xo_M_110_112 hl.1 d_M_wasAt0_15 d_M_wasAt0_18 d_M_wasAt0_19 d_M_wasAt0_22 (fun x hx => (hxt x hx).elim) (Nat.le_of_ble_eq_true rfl) (Nat.le_of_ble_eq_true rfl) rfl rfl hlk h.2.2 h.1 h.2.1
def w_M_wasAt (z mi mc ms : Nat) (post : Int32 → Sg → Prop) (g : Sg) (this : Nat) (p0 : Int32) (p1 : Int32) : Prop := (hasI g this 56 ∧ ∀ g11 : Sg, g11 = wI g 56 this (0 : Int32) → (isK g11 this [6] ∧ ∃ c12 c13 : Nat, 0 + c12 ≤ mc ∧ 0 + c13 ≤ ms ∧ w_M_wasAt0 z mi c12 c13 (fun (x15 : Int32) (g14 : Sg) => post x15 g14) (fun (i16 : Nat) (g17 : Sg) => (i16 = 4 ∧ (hasI g17 this 56 ∧ ∀ g20 : Sg, g20 = wI g17 56 this (1 : Int32) → post (0 : Int32) g20))) g11 this p0 p1))
set_option maxHeartbeats 4000000 in
set_option maxRecDepth 100000 in
theorem s_M_wasAt {l : Launch} {D : va_G} {cA : Nat → ClassId} {sz z mi mc ms : Nat} {g : Sg} {post : Int32 → Sg → Prop} {this : Nat} {p0 : Int32} {p1 : Int32} (hst : l.stackTraces = false) (h : w_M_wasAt z mi mc ms post g this p0 p1) : Met l y_M_wasAt (Cond.codeWith y_M_wasAt b_M_wasAt 4 (some FieldType.int) [(5, 11, 12, 110)] :: TBL) ({ frames := 7, cells := mc, slots := ms, locals := 114 } : Room) (Pg D cA sz z mi [.ref this, .int p0, .int p1] g) (Qg D cA sz (pI post)) mc ms (oA sz) := by
  refine m_codeW (lv := [(0, .ref this), (1, .int p0), (2, .int p1)]) (by decide +kernel) (Nat.le_of_ble_eq_true rfl) rfl ?_
  intro p e s m below meth c ls htb S hr hlk hnm hZ hG hS hl
  obtain ⟨hx, hb, hml, hown, hts⟩ := id S
  have hk : 0 ≤ mc ∧ 0 ≤ ms := ⟨Nat.zero_le _, Nat.zero_le _⟩
  refine lv_aload_n hx hb d_M_wasAt_0 rfl (lv_at hl 0 rfl) ?_
  refine lv_iconst (v := (0 : Int32)) hx hb d_M_wasAt_1 (by decide) ?_
  refine r_putI (f := 56) S hZ hG hS rfl h.1 (hts _ tw_785) (fun _ h9 => h9) (Or.inl rfl) d_M_wasAt_2 (fun g11 H locs e9 hG hS => ?_)
  replace h := h.2 g11 e9
  refine lv_aload_n hx hb d_M_wasAt_5 rfl (lv_at hl 0 rfl) ?_
  refine lv_iload_n hx hb d_M_wasAt_6 rfl (lv_at hl 1 rfl) ?_
  refine lv_iload_n hx hb d_M_wasAt_7 rfl (lv_at hl 2 rfl) ?_
  obtain ⟨h9, h⟩ := h
  obtain ⟨c12, c13, k1, k2, h⟩ := h
  obtain ⟨n9, h9⟩ := isK1 h9
  refine x_callI (xrun_V (As := [.int p0, .int p1]) (rest := []) S hZ hG hS (s_M_wasAt0 hst h) tw_1035 tw_1032 tw_1034 tp_56 tw_8 nk_M_wasAt0 h9 (by decide) rfl ⟨Nat.le_of_ble_eq_true rfl, Nat.le_of_ble_eq_true rfl⟩ rfl hl.1 rfl (by decide) d_M_wasAt_8 ⟨k1, k2⟩) hS (fun i9 ce q9 g17 H locs hi h22 hG hS hq1 hq2 hq3 => ?_) (fun x15 g14 H locs h21 hG hS => ?_)
  · have hk := And.intro k1 k2
    replace h := h22
    obtain ⟨rfl, h⟩ := h
    refine r_catch (i := 4) S hZ (by decide) [] ⟨5, 11, 12, 110⟩ [] htb (fun y hy => nomatch hy) (by decide) (by decide) tw_886 hq1 hq2 hq3 ?_
    refine q_astore_n (o := (some q9)) (lv' := [(0, .ref this), (1, .int p0), (2, .int p1)]) hx hb d_M_wasAt_12 rfl hl (by decide) (.k 0 rfl (by decide) (by decide) (.k 1 rfl (by decide) (by decide) (.c 2 rfl (by decide) rfl .e))) (fun ls19 hl19 => ?_)
    refine lv_aload_n hx hb d_M_wasAt_13 rfl (lv_at hl19 0 rfl) ?_
    refine lv_iconst (v := (1 : Int32)) hx hb d_M_wasAt_14 (by decide) ?_
    refine r_putI (f := 56) S hZ hG hS rfl h.1 (hts _ tw_785) (fun _ h9 => h9) (Or.inl rfl) d_M_wasAt_15 (fun g20 H locs e9 hG hS => ?_)
    replace h := h.2 g20 e9
    refine lv_iconst (v := (0 : Int32)) hx hb d_M_wasAt_18 (by decide) ?_
    exact r_iret (v := (0 : Int32)) S hr hlk hG hS h hk.1 hk.2 d_M_wasAt_19
  · have hk := And.intro k1 k2
    replace h := h21
    exact r_iret (v := x15) S hr hlk hG hS h hk.1 hk.2 d_M_wasAt_11
def w_M_line0_18 (z mi mc ms : Nat) (post : Int32 → Sg → Prop) (px : Nat → Sg → Prop) : Nat → Nat → Nat → Sg → Nat → Int32 → Int32 → Int32 → Int32 → Int32 → Prop
  | 0 => fun _ _ _ _ _ _ _ _ _ => False
  | n + 1 => fun kc ks g this v1 v2 v3 v4 v5 => (hasR g this 51 ∧ ∀ o15 : Option Nat, o15 = fR g 51 this → ∃ a16, o15 = some a16 ∧ (hasI g a16 31 ∧ ∀ x17 : Int32, x17 = fI g 31 a16 → (x17 ≤ v5 → (¬ v1 = (-1 : Int32) → (0 ≤ v4 → post v4 g) ∧ (¬ 0 ≤ v4 → kc + 1 ≤ mc ∧ ks + 6 ≤ ms ∧ px 0 g)) ∧ (v1 = (-1 : Int32) → post v2 g)) ∧ (¬ x17 ≤ v5 → (hasR g this 51 ∧ ∀ o18 : Option Nat, o18 = fR g 51 this → (hasR g this 51 ∧ ∀ o19 : Option Nat, o19 = fR g 51 this → ∃ a20, o19 = some a20 ∧ (hasR g a20 50 ∧ ∀ o21 : Option Nat, o21 = fR g 50 a20 → ∃ a22, o21 = some a22 ∧ (∃ j23 : Nat, inA g a22 100 v5 j23 ∧ ∀ x24 : Int32, x24 = aI g a22 j23 → ∃ a25, o18 = some a25 ∧ (isK g a25 [5] ∧ ∃ c26 c27 : Nat, kc + c26 ≤ mc ∧ ks + c27 ≤ ms ∧ w_G_isShown z mi c26 c27 (fun (x29 : Int32) (g28 : Sg) => (¬ x29 = 0 → (hasR g28 this 51 ∧ ∀ o31 : Option Nat, o31 = fR g28 51 this → ∃ a32, o31 = some a32 ∧ (hasR g28 a32 40 ∧ ∀ o33 : Option Nat, o33 = fR g28 40 a32 → (hasR g28 this 51 ∧ ∀ o34 : Option Nat, o34 = fR g28 51 this → ∃ a35, o34 = some a35 ∧ (hasR g28 a35 50 ∧ ∀ o36 : Option Nat, o36 = fR g28 50 a35 → ∃ a37, o36 = some a37 ∧ (∃ j38 : Nat, inA g28 a37 100 v5 j38 ∧ ∀ x39 : Int32, x39 = aI g28 a37 j38 → ∃ a40, o33 = some a40 ∧ (∃ j41 : Nat, inA g28 a40 100 x39 j41 ∧ ∀ x42 : Int32, x42 = aI g28 a40 j41 → (x42 = (10 : Int32) → (¬ v2 = v1 → w_M_line0_18 z mi mc ms post px n (kc + c26) (ks + c27) g28 this v1 (v2 + (1 : Int32)) (v3 + (1 : Int32)) v4 (v5 + (1 : Int32))) ∧ (v2 = v1 → w_M_line0_18 z mi mc ms post px n (kc + c26) (ks + c27) g28 this v1 (v2 + (1 : Int32)) (v3 + (1 : Int32)) (v3 + (1 : Int32)) (v5 + (1 : Int32)))) ∧ (¬ x42 = (10 : Int32) → w_M_line0_18 z mi mc ms post px n (kc + c26) (ks + c27) g28 this v1 v2 (v3 + (1 : Int32)) v4 (v5 + (1 : Int32)))))))))) ∧ (x29 = 0 → w_M_line0_18 z mi mc ms post px n (kc + c26) (ks + c27) g28 this v1 v2 v3 v4 (v5 + (1 : Int32)))) g a25 x24))))))))
set_option maxHeartbeats 4000000 in
set_option maxRecDepth 100000 in
theorem s_M_line0_18 {p : Program} {l : Launch} {e : Env} {s : State} {m : MethodId} {args : Array Value} {below : List Frame} {meth : Method} {c : Code} {D : va_G} {cA : Nat → ClassId} {sz z mi mc ms : Nat} {post : Int32 → Sg → Prop} {px : Nat → Sg → Prop} (S : CallFix p m c b_M_line0 6 s args TBL "WeaveCoreModel") (hst : l.stackTraces = false) (hZ : Ws D cA sz z mi s) (hr : meth.sig.returnType = (some FieldType.int)) (hlk : meth.locks = false) (hxt : ∀ x ∈ c.exceptionTable.toList, False) :
    ∀ n : Nat, ∀ (kc ks : Nat) (g : Sg) (this : Nat) (v1 : Int32) (v2 : Int32) (v3 : Int32) (v4 : Int32) (v5 : Int32) (H : Heap) (locs : List Loc) (ls : Array Slot), kc ≤ mc ∧ ks ≤ ms → w_M_line0_18 z mi mc ms post px n kc ks g this v1 v2 v3 v4 v5 → WP D cA sz g H → va_S (oA sz) s.heap H locs → lv_has ls 6 [(0, .ref this), (1, .int v1), (2, .int v2), (3, .int v3), (4, .int v4), (5, .int v5)] → W p l e ({ frames := 6, cells := mc, slots := ms, locals := 90 } : Room) s m args below meth c H locs kc ks (vx_MQ below (Qg D cA sz (pI post)) (Xg D cA sz px) args s mc ms (oA sz)) (F0 m 18 ls []) := by
  obtain ⟨hx, hb, hml, hown, hts⟩ := id S
  intro n
  induction n with
  | zero =>
    intro kc ks g this v1 v2 v3 v4 v5 H locs ls hk h hG hS hl
    exact h.elim
  | succ n ih =>
    intro kc ks g this v1 v2 v3 v4 v5 H locs ls hk h hG hS hl
    refine lv_iload hx hb d_M_line0_18 (lv_at hl 5 rfl) ?_
    refine lv_aload_n hx hb d_M_line0_20 rfl (lv_at hl 0 rfl) ?_
    refine r_getR (f := 51) S hZ hG rfl h.1 (hts _ tw_780) (fun _ h9 => h9) d_M_line0_21 (fun o15 e9 => ?_)
    replace h := h.2 o15 e9
    obtain ⟨a16, e9, h⟩ := h
    subst e9
    refine r_getI (f := 31) S hZ hG rfl h.1 (hts _ tw_703) (fun _ h9 => h9) d_M_line0_24 (fun x17 e9 => ?_)
    replace h := h.2 x17 e9
    refine lv_icmp_ge (tgt := 99) hx hb d_M_line0_27 (by decide) (fun c9 => ?_) (fun c9 => ?_)
    · replace h := h.1 c9
      refine lv_iload_n hx hb d_M_line0_99 rfl (lv_at hl 1 rfl) ?_
      refine lv_iconst (v := (-1 : Int32)) hx hb d_M_line0_100 (by decide) ?_
      refine lv_icmp_ne (tgt := 106) hx hb d_M_line0_101 (by decide) (fun c9 => ?_) (fun c9 => ?_)
      · replace h := h.1 c9
        refine lv_iload hx hb d_M_line0_106 (lv_at hl 4 rfl) ?_
        refine lv_if_ge (tgt := 119) hx hb d_M_line0_108 (by decide) (fun c9 => ?_) (fun c9 => ?_)
        · replace h := h.1 c9
          refine lv_iload hx hb d_M_line0_119 (lv_at hl 4 rfl) ?_
          exact vx_ret (r_iret (v := v4) S hr hlk hG hS h hk.1 hk.2 d_M_line0_121)
        · replace h := h.2 c9
          exact r_throw (i := 0) S hst hZ hG hS (by decide) tw_807 tw_15 xa_M_34_36 xb_M_34_36 xo_M_34_36 hl.1 d_M_line0_111 d_M_line0_114 d_M_line0_115 d_M_line0_118 (fun x hx => (hxt x hx).elim) (Nat.le_of_ble_eq_true rfl) (Nat.le_of_ble_eq_true rfl) rfl rfl hlk h.2.2 h.1 h.2.1
      · replace h := h.2 c9
        refine lv_iload_n hx hb d_M_line0_104 rfl (lv_at hl 2 rfl) ?_
        exact vx_ret (r_iret (v := v2) S hr hlk hG hS h hk.1 hk.2 d_M_line0_105)
    · replace h := h.2 c9
      refine lv_aload_n hx hb d_M_line0_30 rfl (lv_at hl 0 rfl) ?_
      refine r_getR (f := 51) S hZ hG rfl h.1 (hts _ tw_780) (fun _ h9 => h9) d_M_line0_31 (fun o18 e9 => ?_)
      replace h := h.2 o18 e9
      refine lv_aload_n hx hb d_M_line0_34 rfl (lv_at hl 0 rfl) ?_
      refine r_getR (f := 51) S hZ hG rfl h.1 (hts _ tw_780) (fun _ h9 => h9) d_M_line0_35 (fun o19 e9 => ?_)
      replace h := h.2 o19 e9
      obtain ⟨a20, e9, h⟩ := h
      subst e9
      refine r_getR (f := 50) S hZ hG rfl h.1 (hts _ tw_732) (fun _ h9 => h9) d_M_line0_38 (fun o21 e9 => ?_)
      replace h := h.2 o21 e9
      refine lv_iload hx hb d_M_line0_41 (lv_at hl 5 rfl) ?_
      obtain ⟨a22, e9, h⟩ := h
      subst e9
      obtain ⟨j23, h9, h⟩ := h
      refine r_iald S hZ hG h9 d_M_line0_43 (fun x24 e9 => ?_)
      replace h := h x24 e9
      obtain ⟨a25, e9, h⟩ := h
      subst e9
      obtain ⟨h9, h⟩ := h
      obtain ⟨c26, c27, k1, k2, h⟩ := h
      obtain ⟨n9, h9⟩ := isK1 h9
      refine q_callI (run_V (As := [.int x24]) (rest := []) S hZ hG hS (s_G_isShown h) tw_961 tw_1044 tw_959 tw_960 tw_9 nk_G_isShown h9 (by decide) rfl ⟨Nat.le_of_ble_eq_true rfl, Nat.le_of_ble_eq_true rfl⟩ rfl hl.1 rfl (by decide) d_M_line0_44 ⟨k1, k2⟩) hS (fun x29 g28 H locs h50 hG hS => ?_)
      have hk := And.intro k1 k2
      replace h := h50
      refine lv_if_ne (tgt := 53) hx hb d_M_line0_47 (by decide) (fun c9 => ?_) (fun c9 => ?_)
      · replace h := h.1 c9
        refine q_iinc (k := 3) (v := v3 + (1 : Int32)) (lv' := [(3, .int (v3 + (1 : Int32))), (0, .ref this), (1, .int v1), (2, .int v2), (4, .int v4), (5, .int v5)]) hx hb d_M_line0_53 hl rfl rfl (by decide) (.n (.k 0 rfl (by decide) (by decide) (.k 1 rfl (by decide) (by decide) (.c 2 rfl (by decide) rfl (.k 4 rfl (by decide) (by decide) (.k 5 rfl (by decide) (by decide) .e)))))) (fun ls30 hl30 => ?_)
        refine lv_aload_n hx hb d_M_line0_56 rfl (lv_at hl30 1 rfl) ?_
        refine r_getR (f := 51) S hZ hG rfl h.1 (hts _ tw_780) (fun _ h9 => h9) d_M_line0_57 (fun o31 e9 => ?_)
        replace h := h.2 o31 e9
        obtain ⟨a32, e9, h⟩ := h
        subst e9
        refine r_getR (f := 40) S hZ hG rfl h.1 (hts _ tw_719) (fun _ h9 => h9) d_M_line0_60 (fun o33 e9 => ?_)
        replace h := h.2 o33 e9
        refine lv_aload_n hx hb d_M_line0_63 rfl (lv_at hl30 1 rfl) ?_
        refine r_getR (f := 51) S hZ hG rfl h.1 (hts _ tw_780) (fun _ h9 => h9) d_M_line0_64 (fun o34 e9 => ?_)
        replace h := h.2 o34 e9
        obtain ⟨a35, e9, h⟩ := h
        subst e9
        refine r_getR (f := 50) S hZ hG rfl h.1 (hts _ tw_732) (fun _ h9 => h9) d_M_line0_67 (fun o36 e9 => ?_)
        replace h := h.2 o36 e9
        refine lv_iload hx hb d_M_line0_70 (lv_at hl30 5 rfl) ?_
        obtain ⟨a37, e9, h⟩ := h
        subst e9
        obtain ⟨j38, h9, h⟩ := h
        refine r_iald S hZ hG h9 d_M_line0_72 (fun x39 e9 => ?_)
        replace h := h x39 e9
        obtain ⟨a40, e9, h⟩ := h
        subst e9
        obtain ⟨j41, h9, h⟩ := h
        refine r_iald S hZ hG h9 d_M_line0_73 (fun x42 e9 => ?_)
        replace h := h x42 e9
        refine lv_bipush (v := (10 : Int32)) hx hb d_M_line0_74 (by decide) ?_
        refine lv_icmp_eq (tgt := 82) hx hb d_M_line0_76 (by decide) (fun c9 => ?_) (fun c9 => ?_)
        · replace h := h.1 c9
          refine lv_iload_n hx hb d_M_line0_82 rfl (lv_at hl30 3 rfl) ?_
          refine lv_iload_n hx hb d_M_line0_83 rfl (lv_at hl30 2 rfl) ?_
          refine lv_icmp_ne (tgt := 90) hx hb d_M_line0_84 (by decide) (fun c9 => ?_) (fun c9 => ?_)
          · replace h := h.1 c9
            refine q_iinc (k := 3) (v := v2 + (1 : Int32)) (lv' := [(2, .int (v2 + (1 : Int32))), (3, .int (v3 + (1 : Int32))), (0, .ref this), (1, .int v1), (4, .int v4), (5, .int v5)]) hx hb d_M_line0_90 hl30 rfl rfl (by decide) (.n (.k 0 rfl (by decide) (by decide) (.k 1 rfl (by decide) (by decide) (.c 2 rfl (by decide) rfl (.k 4 rfl (by decide) (by decide) (.k 5 rfl (by decide) (by decide) .e)))))) (fun ls43 hl43 => ?_)
            refine q_iinc (k := 5) (v := v5 + (1 : Int32)) (lv' := [(5, .int (v5 + (1 : Int32))), (2, .int (v2 + (1 : Int32))), (3, .int (v3 + (1 : Int32))), (0, .ref this), (1, .int v1), (4, .int v4)]) hx hb d_M_line0_93 hl43 rfl rfl (by decide) (.n (.k 0 rfl (by decide) (by decide) (.k 1 rfl (by decide) (by decide) (.k 2 rfl (by decide) (by decide) (.k 3 rfl (by decide) (by decide) (.c 4 rfl (by decide) rfl .e)))))) (fun ls44 hl44 => ?_)
            refine lv_goto (tgt := 18) hx hb d_M_line0_96 (by decide) ?_
            exact ih _ _ _ _ _ _ _ _ _ _ _ _ hk h hG hS (lv_sub hl44 [3, 4, 1, 2, 5, 0] rfl)
          · replace h := h.2 c9
            refine lv_iload_n hx hb d_M_line0_87 rfl (lv_at hl30 0 rfl) ?_
            refine q_istore (lv' := [(4, .int (v3 + (1 : Int32))), (3, .int (v3 + (1 : Int32))), (0, .ref this), (1, .int v1), (2, .int v2), (5, .int v5)]) hx hb d_M_line0_88 hl30 (by decide) (.n (.c 0 rfl (by decide) rfl (.k 1 rfl (by decide) (by decide) (.k 2 rfl (by decide) (by decide) (.k 3 rfl (by decide) (by decide) (.k 5 rfl (by decide) (by decide) .e)))))) (fun ls45 hl45 => ?_)
            refine q_iinc (k := 4) (v := v2 + (1 : Int32)) (lv' := [(2, .int (v2 + (1 : Int32))), (4, .int (v3 + (1 : Int32))), (3, .int (v3 + (1 : Int32))), (0, .ref this), (1, .int v1), (5, .int v5)]) hx hb d_M_line0_90 hl45 rfl rfl (by decide) (.n (.k 0 rfl (by decide) (by decide) (.k 1 rfl (by decide) (by decide) (.k 2 rfl (by decide) (by decide) (.c 3 rfl (by decide) rfl (.k 5 rfl (by decide) (by decide) .e)))))) (fun ls46 hl46 => ?_)
            refine q_iinc (k := 5) (v := v5 + (1 : Int32)) (lv' := [(5, .int (v5 + (1 : Int32))), (2, .int (v2 + (1 : Int32))), (4, .int (v3 + (1 : Int32))), (3, .int (v3 + (1 : Int32))), (0, .ref this), (1, .int v1)]) hx hb d_M_line0_93 hl46 rfl rfl (by decide) (.n (.k 0 rfl (by decide) (by decide) (.c 1 rfl (by decide) rfl (.k 2 rfl (by decide) (by decide) (.k 3 rfl (by decide) (by decide) (.k 4 rfl (by decide) (by decide) .e)))))) (fun ls47 hl47 => ?_)
            refine lv_goto (tgt := 18) hx hb d_M_line0_96 (by decide) ?_
            exact ih _ _ _ _ _ _ _ _ _ _ _ _ hk h hG hS (lv_sub hl47 [4, 5, 1, 3, 2, 0] rfl)
        · replace h := h.2 c9
          refine lv_goto (tgt := 93) hx hb d_M_line0_79 (by decide) ?_
          refine q_iinc (k := 5) (v := v5 + (1 : Int32)) (lv' := [(5, .int (v5 + (1 : Int32))), (3, .int (v3 + (1 : Int32))), (0, .ref this), (1, .int v1), (2, .int v2), (4, .int v4)]) hx hb d_M_line0_93 hl30 rfl rfl (by decide) (.n (.k 0 rfl (by decide) (by decide) (.k 1 rfl (by decide) (by decide) (.k 2 rfl (by decide) (by decide) (.k 3 rfl (by decide) (by decide) (.c 4 rfl (by decide) rfl .e)))))) (fun ls48 hl48 => ?_)
          refine lv_goto (tgt := 18) hx hb d_M_line0_96 (by decide) ?_
          exact ih _ _ _ _ _ _ _ _ _ _ _ _ hk h hG hS (lv_sub hl48 [2, 3, 4, 1, 5, 0] rfl)
      · replace h := h.2 c9
        refine lv_goto (tgt := 93) hx hb d_M_line0_50 (by decide) ?_
        refine q_iinc (k := 5) (v := v5 + (1 : Int32)) (lv' := [(5, .int (v5 + (1 : Int32))), (0, .ref this), (1, .int v1), (2, .int v2), (3, .int v3), (4, .int v4)]) hx hb d_M_line0_93 hl rfl rfl (by decide) (.n (.k 0 rfl (by decide) (by decide) (.k 1 rfl (by decide) (by decide) (.k 2 rfl (by decide) (by decide) (.k 3 rfl (by decide) (by decide) (.c 4 rfl (by decide) rfl .e)))))) (fun ls49 hl49 => ?_)
        refine lv_goto (tgt := 18) hx hb d_M_line0_96 (by decide) ?_
        exact ih _ _ _ _ _ _ _ _ _ _ _ _ hk h hG hS (lv_sub hl49 [1, 2, 3, 4, 5, 0] rfl)
def w_M_line0 (z mi mc ms : Nat) (post : Int32 → Sg → Prop) (px : Nat → Sg → Prop) (g : Sg) (this : Nat) (p0 : Int32) : Prop := (¬ p0 = 0 → (∃ n51 : Nat, w_M_line0_18 z mi mc ms post px n51 0 0 g this p0 (1 : Int32) (0 : Int32) (-1 : Int32) (0 : Int32))) ∧ (p0 = 0 → (∃ n54 : Nat, w_M_line0_18 z mi mc ms post px n54 0 0 g this p0 (1 : Int32) (0 : Int32) (0 : Int32) (0 : Int32)))
set_option maxHeartbeats 4000000 in
set_option maxRecDepth 100000 in
theorem s_M_line0 {l : Launch} {D : va_G} {cA : Nat → ClassId} {sz z mi mc ms : Nat} {g : Sg} {post : Int32 → Sg → Prop} {px : Nat → Sg → Prop} {this : Nat} {p0 : Int32} (hst : l.stackTraces = false) (h : w_M_line0 z mi mc ms post px g this p0) : vx_Met l y_M_line0 (Cond.code y_M_line0 b_M_line0 6 (some FieldType.int) :: TBL) ({ frames := 6, cells := mc, slots := ms, locals := 90 } : Room) (Pg D cA sz z mi [.ref this, .int p0] g) (Qg D cA sz (pI post)) (Xg D cA sz px) mc ms (oA sz) := by
  refine m_codeX (lv := [(0, .ref this), (1, .int p0)]) (by decide +kernel) (Nat.le_of_ble_eq_true rfl) rfl ?_
  intro p e s m below meth c ls hxt S hr hlk hnm hZ hG hS hl
  obtain ⟨hx, hb, hml, hown, hts⟩ := id S
  have hk : 0 ≤ mc ∧ 0 ≤ ms := ⟨Nat.zero_le _, Nat.zero_le _⟩
  refine lv_iconst (v := (1 : Int32)) hx hb d_M_line0_0 (by decide) ?_
  refine q_istore_n (lv' := [(2, .int ((1 : Int32))), (0, .ref this), (1, .int p0)]) hx hb d_M_line0_1 rfl hl (by decide) (.n (.k 0 rfl (by decide) (by decide) (.c 1 rfl (by decide) rfl .e))) (fun ls11 hl11 => ?_)
  refine lv_iconst (v := (0 : Int32)) hx hb d_M_line0_2 (by decide) ?_
  refine q_istore_n (lv' := [(3, .int ((0 : Int32))), (2, .int ((1 : Int32))), (0, .ref this), (1, .int p0)]) hx hb d_M_line0_3 rfl hl11 (by decide) (.n (.c 0 rfl (by decide) rfl (.k 1 rfl (by decide) (by decide) (.k 2 rfl (by decide) (by decide) .e)))) (fun ls12 hl12 => ?_)
  refine lv_iload_n hx hb d_M_line0_4 rfl (lv_at hl12 3 rfl) ?_
  refine lv_if_ne (tgt := 12) hx hb d_M_line0_5 (by decide) (fun c9 => ?_) (fun c9 => ?_)
  · replace h := h.1 c9
    refine lv_iconst (v := (-1 : Int32)) hx hb d_M_line0_12 (by decide) ?_
    refine q_istore (lv' := [(4, .int ((-1 : Int32))), (3, .int ((0 : Int32))), (2, .int ((1 : Int32))), (0, .ref this), (1, .int p0)]) hx hb d_M_line0_13 hl12 (by decide) (.n (.c 0 rfl (by decide) rfl (.k 1 rfl (by decide) (by decide) (.k 2 rfl (by decide) (by decide) (.k 3 rfl (by decide) (by decide) .e))))) (fun ls13 hl13 => ?_)
    refine lv_iconst (v := (0 : Int32)) hx hb d_M_line0_15 (by decide) ?_
    refine q_istore (lv' := [(5, .int ((0 : Int32))), (4, .int ((-1 : Int32))), (3, .int ((0 : Int32))), (2, .int ((1 : Int32))), (0, .ref this), (1, .int p0)]) hx hb d_M_line0_16 hl13 (by decide) (.n (.c 0 rfl (by decide) rfl (.k 1 rfl (by decide) (by decide) (.k 2 rfl (by decide) (by decide) (.k 3 rfl (by decide) (by decide) (.k 4 rfl (by decide) (by decide) .e)))))) (fun ls14 hl14 => ?_)
    obtain ⟨n51, h⟩ := h
    exact s_M_line0_18 S hst hZ hr hlk hxt n51 _ _ _ _ _ _ _ _ _ _ _ _ hk h hG hS (lv_sub hl14 [4, 5, 3, 2, 1, 0] rfl)
  · replace h := h.2 c9
    refine lv_iconst (v := (0 : Int32)) hx hb d_M_line0_8 (by decide) ?_
    refine lv_goto (tgt := 13) hx hb d_M_line0_9 (by decide) ?_
    refine q_istore (lv' := [(4, .int ((0 : Int32))), (3, .int ((0 : Int32))), (2, .int ((1 : Int32))), (0, .ref this), (1, .int p0)]) hx hb d_M_line0_13 hl12 (by decide) (.n (.c 0 rfl (by decide) rfl (.k 1 rfl (by decide) (by decide) (.k 2 rfl (by decide) (by decide) (.k 3 rfl (by decide) (by decide) .e))))) (fun ls52 hl52 => ?_)
    refine lv_iconst (v := (0 : Int32)) hx hb d_M_line0_15 (by decide) ?_
    refine q_istore (lv' := [(5, .int ((0 : Int32))), (4, .int ((0 : Int32))), (3, .int ((0 : Int32))), (2, .int ((1 : Int32))), (0, .ref this), (1, .int p0)]) hx hb d_M_line0_16 hl52 (by decide) (.n (.c 0 rfl (by decide) rfl (.k 1 rfl (by decide) (by decide) (.k 2 rfl (by decide) (by decide) (.k 3 rfl (by decide) (by decide) (.k 4 rfl (by decide) (by decide) .e)))))) (fun ls53 hl53 => ?_)
    obtain ⟨n54, h⟩ := h
    exact s_M_line0_18 S hst hZ hr hlk hxt n54 _ _ _ _ _ _ _ _ _ _ _ _ hk h hG hS (lv_sub hl53 [4, 5, 3, 2, 1, 0] rfl)
def w_M_line (z mi mc ms : Nat) (post : Int32 → Sg → Prop) (g : Sg) (this : Nat) (p0 : Int32) : Prop := (hasI g this 56 ∧ ∀ g11 : Sg, g11 = wI g 56 this (0 : Int32) → (isK g11 this [6] ∧ ∃ c12 c13 : Nat, 0 + c12 ≤ mc ∧ 0 + c13 ≤ ms ∧ w_M_line0 z mi c12 c13 (fun (x15 : Int32) (g14 : Sg) => post x15 g14) (fun (i16 : Nat) (g17 : Sg) => (i16 = 0 ∧ (hasI g17 this 56 ∧ ∀ g20 : Sg, g20 = wI g17 56 this (1 : Int32) → post (0 : Int32) g20))) g11 this p0))
set_option maxHeartbeats 4000000 in
set_option maxRecDepth 100000 in
theorem s_M_line {l : Launch} {D : va_G} {cA : Nat → ClassId} {sz z mi mc ms : Nat} {g : Sg} {post : Int32 → Sg → Prop} {this : Nat} {p0 : Int32} (hst : l.stackTraces = false) (h : w_M_line z mi mc ms post g this p0) : Met l y_M_line (Cond.codeWith y_M_line b_M_line 3 (some FieldType.int) [(5, 10, 11, 34)] :: TBL) ({ frames := 7, cells := mc, slots := ms, locals := 115 } : Room) (Pg D cA sz z mi [.ref this, .int p0] g) (Qg D cA sz (pI post)) mc ms (oA sz) := by
  refine m_codeW (lv := [(0, .ref this), (1, .int p0)]) (by decide +kernel) (Nat.le_of_ble_eq_true rfl) rfl ?_
  intro p e s m below meth c ls htb S hr hlk hnm hZ hG hS hl
  obtain ⟨hx, hb, hml, hown, hts⟩ := id S
  have hk : 0 ≤ mc ∧ 0 ≤ ms := ⟨Nat.zero_le _, Nat.zero_le _⟩
  refine lv_aload_n hx hb d_M_line_0 rfl (lv_at hl 0 rfl) ?_
  refine lv_iconst (v := (0 : Int32)) hx hb d_M_line_1 (by decide) ?_
  refine r_putI (f := 56) S hZ hG hS rfl h.1 (hts _ tw_785) (fun _ h9 => h9) (Or.inl rfl) d_M_line_2 (fun g11 H locs e9 hG hS => ?_)
  replace h := h.2 g11 e9
  refine lv_aload_n hx hb d_M_line_5 rfl (lv_at hl 0 rfl) ?_
  refine lv_iload_n hx hb d_M_line_6 rfl (lv_at hl 1 rfl) ?_
  obtain ⟨h9, h⟩ := h
  obtain ⟨c12, c13, k1, k2, h⟩ := h
  obtain ⟨n9, h9⟩ := isK1 h9
  refine x_callI (xrun_V (As := [.int p0]) (rest := []) S hZ hG hS (s_M_line0 hst h) tw_1043 tw_1040 tw_1042 tp_57 tw_8 nk_M_line0 h9 (by decide) rfl ⟨Nat.le_of_ble_eq_true rfl, Nat.le_of_ble_eq_true rfl⟩ rfl hl.1 rfl (by decide) d_M_line_7 ⟨k1, k2⟩) hS (fun i9 ce q9 g17 H locs hi h22 hG hS hq1 hq2 hq3 => ?_) (fun x15 g14 H locs h21 hG hS => ?_)
  · have hk := And.intro k1 k2
    replace h := h22
    obtain ⟨rfl, h⟩ := h
    refine r_catch (i := 0) S hZ (by decide) [] ⟨5, 10, 11, 34⟩ [] htb (fun y hy => nomatch hy) (by decide) (by decide) tw_807 hq1 hq2 hq3 ?_
    refine q_astore_n (o := (some q9)) (lv' := [(0, .ref this), (1, .int p0)]) hx hb d_M_line_11 rfl hl (by decide) (.k 0 rfl (by decide) (by decide) (.c 1 rfl (by decide) rfl .e)) (fun ls19 hl19 => ?_)
    refine lv_aload_n hx hb d_M_line_12 rfl (lv_at hl19 0 rfl) ?_
    refine lv_iconst (v := (1 : Int32)) hx hb d_M_line_13 (by decide) ?_
    refine r_putI (f := 56) S hZ hG hS rfl h.1 (hts _ tw_785) (fun _ h9 => h9) (Or.inl rfl) d_M_line_14 (fun g20 H locs e9 hG hS => ?_)
    replace h := h.2 g20 e9
    refine lv_iconst (v := (0 : Int32)) hx hb d_M_line_17 (by decide) ?_
    exact r_iret (v := (0 : Int32)) S hr hlk hG hS h hk.1 hk.2 d_M_line_18
  · have hk := And.intro k1 k2
    replace h := h21
    exact r_iret (v := x15) S hr hlk hG hS h hk.1 hk.2 d_M_line_10
def w_G_countOf (z mi mc ms : Nat) (post : Int32 → Sg → Prop) (g : Sg) (this : Nat) (p0 : Int32) : Prop := (isK g this [5] ∧ ∃ c11 c12 : Nat, 0 + c11 ≤ mc ∧ 0 + c12 ≤ ms ∧ w_G_slotOf z mi c11 c12 (fun (x14 : Int32) (g13 : Sg) => (0 ≤ x14 → (hasR g13 this 33 ∧ ∀ o16 : Option Nat, o16 = fR g13 33 this → ∃ a17, o16 = some a17 ∧ (∃ j18 : Nat, inA g13 a17 100 x14 j18 ∧ ∀ x19 : Int32, x19 = aI g13 a17 j18 → post x19 g13))) ∧ (¬ 0 ≤ x14 → post (0 : Int32) g13)) g this p0)
set_option maxHeartbeats 4000000 in
set_option maxRecDepth 100000 in
theorem s_G_countOf {l : Launch} {D : va_G} {cA : Nat → ClassId} {sz z mi mc ms : Nat} {g : Sg} {post : Int32 → Sg → Prop} {this : Nat} {p0 : Int32} (h : w_G_countOf z mi mc ms post g this p0) : Met l y_G_countOf (Cond.code y_G_countOf b_G_countOf 3 (some FieldType.int) :: TBL) ({ frames := 1, cells := mc, slots := ms, locals := 22 } : Room) (Pg D cA sz z mi [.ref this, .int p0] g) (Qg D cA sz (pI post)) mc ms (oA sz) := by
  refine m_code (lv := [(0, .ref this), (1, .int p0)]) (by decide +kernel) (Nat.le_of_ble_eq_true rfl) rfl ?_
  intro p e s m below meth c ls S hr hlk hnm hZ hG hS hl
  obtain ⟨hx, hb, hml, hown, hts⟩ := id S
  have hk : 0 ≤ mc ∧ 0 ≤ ms := ⟨Nat.zero_le _, Nat.zero_le _⟩
  refine lv_aload_n hx hb d_G_countOf_0 rfl (lv_at hl 0 rfl) ?_
  refine lv_iload_n hx hb d_G_countOf_1 rfl (lv_at hl 1 rfl) ?_
  obtain ⟨h9, h⟩ := h
  obtain ⟨c11, c12, k1, k2, h⟩ := h
  obtain ⟨n9, h9⟩ := isK1 h9
  refine q_callI (run_V (As := [.int p0]) (rest := []) S hZ hG hS (s_G_slotOf h) tw_821 tw_818 tw_819 tw_820 tw_9 nk_G_slotOf h9 (by decide) rfl ⟨Nat.le_of_ble_eq_true rfl, Nat.le_of_ble_eq_true rfl⟩ rfl hl.1 rfl (by decide) d_G_countOf_2 ⟨k1, k2⟩) hS (fun x14 g13 H locs h20 hG hS => ?_)
  have hk := And.intro k1 k2
  replace h := h20
  refine q_istore_n (lv' := [(2, .int x14), (0, .ref this), (1, .int p0)]) hx hb d_G_countOf_5 rfl hl (by decide) (.n (.k 0 rfl (by decide) (by decide) (.c 1 rfl (by decide) rfl .e))) (fun ls15 hl15 => ?_)
  refine lv_iload_n hx hb d_G_countOf_6 rfl (lv_at hl15 0 rfl) ?_
  refine lv_if_ge (tgt := 14) hx hb d_G_countOf_7 (by decide) (fun c9 => ?_) (fun c9 => ?_)
  · replace h := h.1 c9
    refine lv_aload_n hx hb d_G_countOf_14 rfl (lv_at hl15 1 rfl) ?_
    refine r_getR (f := 33) S hZ hG rfl h.1 (hts _ tw_706) (fun _ h9 => h9) d_G_countOf_15 (fun o16 e9 => ?_)
    replace h := h.2 o16 e9
    refine lv_iload_n hx hb d_G_countOf_18 rfl (lv_at hl15 0 rfl) ?_
    obtain ⟨a17, e9, h⟩ := h
    subst e9
    obtain ⟨j18, h9, h⟩ := h
    refine r_iald S hZ hG h9 d_G_countOf_19 (fun x19 e9 => ?_)
    replace h := h x19 e9
    exact r_iret (v := x19) S hr hlk hG hS h hk.1 hk.2 d_G_countOf_20
  · replace h := h.2 c9
    refine lv_iconst (v := (0 : Int32)) hx hb d_G_countOf_10 (by decide) ?_
    refine lv_goto (tgt := 20) hx hb d_G_countOf_11 (by decide) ?_
    exact r_iret (v := (0 : Int32)) S hr hlk hG hS h hk.1 hk.2 d_G_countOf_20
def w_M_events0 (z mi mc ms : Nat) (post : Int32 → Sg → Prop) (px : Nat → Sg → Prop) (g : Sg) (this : Nat) (p0 : Int32) : Prop := (∃ c11 c12 : Nat, 0 + c11 ≤ mc ∧ 0 + c12 ≤ ms ∧ w_M_in z mi c11 c12 (fun (x14 : Int32) (g13 : Sg) => (∃ c15 c16 : Nat, (0 + c11) + c15 ≤ mc ∧ (0 + c12) + c16 ≤ ms ∧ w_M_check z mi c15 c16 (fun (g17 : Sg) => (0 ≤ p0 → (hasR g17 this 51 ∧ ∀ o18 : Option Nat, o18 = fR g17 51 this → ∃ a19, o18 = some a19 ∧ (isK g17 a19 [5] ∧ ∃ c20 c21 : Nat, ((0 + c11) + c15) + c20 ≤ mc ∧ ((0 + c12) + c16) + c21 ≤ ms ∧ w_G_countOf z mi c20 c21 (fun (x23 : Int32) (g22 : Sg) => post x23 g22) g17 a19 p0))) ∧ (¬ 0 ≤ p0 → (hasR g17 this 51 ∧ ∀ o25 : Option Nat, o25 = fR g17 51 this → ∃ a26, o25 = some a26 ∧ (hasI g17 a26 29 ∧ ∀ x27 : Int32, x27 = fI g17 29 a26 → post x27 g17)))) px g13 x14)) g p0 (-1 : Int32) (255 : Int32))
set_option maxHeartbeats 4000000 in
set_option maxRecDepth 100000 in
theorem s_M_events0 {l : Launch} {D : va_G} {cA : Nat → ClassId} {sz z mi mc ms : Nat} {g : Sg} {post : Int32 → Sg → Prop} {px : Nat → Sg → Prop} {this : Nat} {p0 : Int32} (hst : l.stackTraces = false) (h : w_M_events0 z mi mc ms post px g this p0) : vx_Met l y_M_events0 (Cond.code y_M_events0 b_M_events0 2 (some FieldType.int) :: TBL) ({ frames := 7, cells := mc, slots := ms, locals := 110 } : Room) (Pg D cA sz z mi [.ref this, .int p0] g) (Qg D cA sz (pI post)) (Xg D cA sz px) mc ms (oA sz) := by
  refine m_codeX (lv := [(0, .ref this), (1, .int p0)]) (by decide +kernel) (Nat.le_of_ble_eq_true rfl) rfl ?_
  intro p e s m below meth c ls hxt S hr hlk hnm hZ hG hS hl
  obtain ⟨hx, hb, hml, hown, hts⟩ := id S
  have hk : 0 ≤ mc ∧ 0 ≤ ms := ⟨Nat.zero_le _, Nat.zero_le _⟩
  refine lv_iload_n hx hb d_M_events0_0 rfl (lv_at hl 1 rfl) ?_
  refine lv_iconst (v := (-1 : Int32)) hx hb d_M_events0_1 (by decide) ?_
  refine lv_sipush (v := (255 : Int32)) hx hb d_M_events0_2 (by decide) ?_
  obtain ⟨c11, c12, k1, k2, h⟩ := h
  refine q_callI (run_S (As := [.int p0, .int ((-1 : Int32)), .int ((255 : Int32))]) (rest := []) S hZ hG hS (s_M_in h) tw_893 tw_891 tw_892 tw_8 nk_M_in ⟨Nat.le_of_ble_eq_true rfl, Nat.le_of_ble_eq_true rfl⟩ rfl hl.1 rfl (by decide) d_M_events0_5 ⟨k1, k2⟩) hS (fun x14 g13 H locs h31 hG hS => ?_)
  have hk := And.intro k1 k2
  replace h := h31
  obtain ⟨c15, c16, k1, k2, h⟩ := h
  refine x_callV (xrun_S (As := [.int x14]) (rest := []) S hZ hG hS (s_M_check hst h) tw_897 tw_895 tw_896 tw_8 nk_M_check ⟨Nat.le_of_ble_eq_true rfl, Nat.le_of_ble_eq_true rfl⟩ rfl hl.1 rfl (by decide) d_M_events0_8 ⟨k1, k2⟩) hS (fun i9 ce q9 g9 H locs hi h30 hG hS hq1 hq2 hq3 => ?_) (fun g17 H locs h29 hG hS => ?_)
  · have hk := And.intro k1 k2
    replace h := h30
    exact r_out (fun x hx => (hxt x hx).elim) hlk hG hS hi h hq1 hq2 hq3 hk.1 hk.2
  · have hk := And.intro k1 k2
    replace h := h29
    refine lv_iload_n hx hb d_M_events0_11 rfl (lv_at hl 1 rfl) ?_
    refine lv_if_ge (tgt := 25) hx hb d_M_events0_12 (by decide) (fun c9 => ?_) (fun c9 => ?_)
    · replace h := h.1 c9
      refine lv_aload_n hx hb d_M_events0_25 rfl (lv_at hl 0 rfl) ?_
      refine r_getR (f := 51) S hZ hG rfl h.1 (hts _ tw_780) (fun _ h9 => h9) d_M_events0_26 (fun o18 e9 => ?_)
      replace h := h.2 o18 e9
      refine lv_iload_n hx hb d_M_events0_29 rfl (lv_at hl 1 rfl) ?_
      obtain ⟨a19, e9, h⟩ := h
      subst e9
      obtain ⟨h9, h⟩ := h
      obtain ⟨c20, c21, k1, k2, h⟩ := h
      obtain ⟨n9, h9⟩ := isK1 h9
      refine q_callI (run_V (As := [.int p0]) (rest := []) S hZ hG hS (s_G_countOf h) tw_1056 tw_1053 tw_1054 tw_1055 tw_9 nk_G_countOf h9 (by decide) rfl ⟨Nat.le_of_ble_eq_true rfl, Nat.le_of_ble_eq_true rfl⟩ rfl hl.1 rfl (by decide) d_M_events0_30 ⟨k1, k2⟩) hS (fun x23 g22 H locs h24 hG hS => ?_)
      have hk := And.intro k1 k2
      replace h := h24
      exact vx_ret (r_iret (v := x23) S hr hlk hG hS h hk.1 hk.2 d_M_events0_33)
    · replace h := h.2 c9
      refine lv_aload_n hx hb d_M_events0_15 rfl (lv_at hl 0 rfl) ?_
      refine r_getR (f := 51) S hZ hG rfl h.1 (hts _ tw_780) (fun _ h9 => h9) d_M_events0_16 (fun o25 e9 => ?_)
      replace h := h.2 o25 e9
      obtain ⟨a26, e9, h⟩ := h
      subst e9
      refine r_getI (f := 29) S hZ hG rfl h.1 (hts _ tw_698) (fun _ h9 => h9) d_M_events0_19 (fun x27 e9 => ?_)
      replace h := h.2 x27 e9
      refine lv_goto (tgt := 33) hx hb d_M_events0_22 (by decide) ?_
      exact vx_ret (r_iret (v := x27) S hr hlk hG hS h hk.1 hk.2 d_M_events0_33)
def w_M_events (z mi mc ms : Nat) (post : Int32 → Sg → Prop) (g : Sg) (this : Nat) (p0 : Int32) : Prop := (hasI g this 56 ∧ ∀ g11 : Sg, g11 = wI g 56 this (0 : Int32) → (isK g11 this [6] ∧ ∃ c12 c13 : Nat, 0 + c12 ≤ mc ∧ 0 + c13 ≤ ms ∧ w_M_events0 z mi c12 c13 (fun (x15 : Int32) (g14 : Sg) => post x15 g14) (fun (i16 : Nat) (g17 : Sg) => (i16 = 3 ∧ (hasI g17 this 56 ∧ ∀ g20 : Sg, g20 = wI g17 56 this (1 : Int32) → post (0 : Int32) g20))) g11 this p0))
set_option maxHeartbeats 4000000 in
set_option maxRecDepth 100000 in
theorem s_M_events {l : Launch} {D : va_G} {cA : Nat → ClassId} {sz z mi mc ms : Nat} {g : Sg} {post : Int32 → Sg → Prop} {this : Nat} {p0 : Int32} (hst : l.stackTraces = false) (h : w_M_events z mi mc ms post g this p0) : Met l y_M_events (Cond.codeWith y_M_events b_M_events 3 (some FieldType.int) [(5, 10, 11, 27)] :: TBL) ({ frames := 8, cells := mc, slots := ms, locals := 131 } : Room) (Pg D cA sz z mi [.ref this, .int p0] g) (Qg D cA sz (pI post)) mc ms (oA sz) := by
  refine m_codeW (lv := [(0, .ref this), (1, .int p0)]) (by decide +kernel) (Nat.le_of_ble_eq_true rfl) rfl ?_
  intro p e s m below meth c ls htb S hr hlk hnm hZ hG hS hl
  obtain ⟨hx, hb, hml, hown, hts⟩ := id S
  have hk : 0 ≤ mc ∧ 0 ≤ ms := ⟨Nat.zero_le _, Nat.zero_le _⟩
  refine lv_aload_n hx hb d_M_events_0 rfl (lv_at hl 0 rfl) ?_
  refine lv_iconst (v := (0 : Int32)) hx hb d_M_events_1 (by decide) ?_
  refine r_putI (f := 56) S hZ hG hS rfl h.1 (hts _ tw_785) (fun _ h9 => h9) (Or.inl rfl) d_M_events_2 (fun g11 H locs e9 hG hS => ?_)
  replace h := h.2 g11 e9
  refine lv_aload_n hx hb d_M_events_5 rfl (lv_at hl 0 rfl) ?_
  refine lv_iload_n hx hb d_M_events_6 rfl (lv_at hl 1 rfl) ?_
  obtain ⟨h9, h⟩ := h
  obtain ⟨c12, c13, k1, k2, h⟩ := h
  obtain ⟨n9, h9⟩ := isK1 h9
  refine x_callI (xrun_V (As := [.int p0]) (rest := []) S hZ hG hS (s_M_events0 hst h) tw_1052 tw_1049 tw_1051 tp_58 tw_8 nk_M_events0 h9 (by decide) rfl ⟨Nat.le_of_ble_eq_true rfl, Nat.le_of_ble_eq_true rfl⟩ rfl hl.1 rfl (by decide) d_M_events_7 ⟨k1, k2⟩) hS (fun i9 ce q9 g17 H locs hi h22 hG hS hq1 hq2 hq3 => ?_) (fun x15 g14 H locs h21 hG hS => ?_)
  · have hk := And.intro k1 k2
    replace h := h22
    obtain ⟨rfl, h⟩ := h
    refine r_catch (i := 3) S hZ (by decide) [] ⟨5, 10, 11, 27⟩ [] htb (fun y hy => nomatch hy) (by decide) (by decide) tw_885 hq1 hq2 hq3 ?_
    refine q_astore_n (o := (some q9)) (lv' := [(0, .ref this), (1, .int p0)]) hx hb d_M_events_11 rfl hl (by decide) (.k 0 rfl (by decide) (by decide) (.c 1 rfl (by decide) rfl .e)) (fun ls19 hl19 => ?_)
    refine lv_aload_n hx hb d_M_events_12 rfl (lv_at hl19 0 rfl) ?_
    refine lv_iconst (v := (1 : Int32)) hx hb d_M_events_13 (by decide) ?_
    refine r_putI (f := 56) S hZ hG hS rfl h.1 (hts _ tw_785) (fun _ h9 => h9) (Or.inl rfl) d_M_events_14 (fun g20 H locs e9 hG hS => ?_)
    replace h := h.2 g20 e9
    refine lv_iconst (v := (0 : Int32)) hx hb d_M_events_17 (by decide) ?_
    exact r_iret (v := (0 : Int32)) S hr hlk hG hS h hk.1 hk.2 d_M_events_18
  · have hk := And.intro k1 k2
    replace h := h21
    exact r_iret (v := x15) S hr hlk hG hS h hk.1 hk.2 d_M_events_10
