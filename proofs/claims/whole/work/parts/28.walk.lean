def w_M_insert (z mi mc ms : Nat) (post : Int32 → Sg → Prop) (g : Sg) (this : Nat) (p0 : Int32) (p1 : Int32) (p2 : Int32) (p3 : Int32) : Prop := (hasI g this 56 ∧ ∀ g11 : Sg, g11 = wI g 56 this (0 : Int32) → (isK g11 this [6] ∧ ∃ c12 c13 : Nat, 0 + c12 ≤ mc ∧ 0 + c13 ≤ ms ∧ w_M_insert0 z mi c12 c13 (fun (x15 : Int32) (g14 : Sg) => post x15 g14) (fun (i16 : Nat) (g17 : Sg) => (i16 = 1 ∧ (hasI g17 this 56 ∧ ∀ g20 : Sg, g20 = wI g17 56 this (2 : Int32) → post (0 : Int32) g20)) ∨ (i16 = 2 ∧ (hasI g17 this 56 ∧ ∀ g23 : Sg, g23 = wI g17 56 this (4 : Int32) → post (0 : Int32) g23)) ∨ (i16 = 3 ∧ (hasI g17 this 56 ∧ ∀ g26 : Sg, g26 = wI g17 56 this (1 : Int32) → post (0 : Int32) g26)) ∨ (i16 = 4 ∧ (hasI g17 this 56 ∧ ∀ g29 : Sg, g29 = wI g17 56 this (3 : Int32) → post (0 : Int32) g29))) g11 this p0 p1 p2 p3))
set_option maxHeartbeats 4000000 in
set_option maxRecDepth 100000 in
theorem s_M_insert {l : Launch} {D : va_G} {cA : Nat → ClassId} {sz z mi mc ms : Nat} {g : Sg} {post : Int32 → Sg → Prop} {this : Nat} {p0 : Int32} {p1 : Int32} {p2 : Int32} {p3 : Int32} (hst : l.stackTraces = false) (h : w_M_insert z mi mc ms post g this p0 p1 p2 p3) : Met l y_M_insert (Cond.codeWith y_M_insert b_M_insert 6 (some FieldType.int) [(5, 14, 15, 27), (5, 14, 25, 41), (5, 14, 35, 110), (5, 14, 45, 44)] :: TBL) ({ frames := 9, cells := mc, slots := ms, locals := 163 } : Room) (Pg D cA sz z mi [.ref this, .int p0, .int p1, .int p2, .int p3] g) (Qg D cA sz (pI post)) mc ms (oA sz) := by
  refine m_codeW (lv := [(0, .ref this), (1, .int p0), (2, .int p1), (3, .int p2), (4, .int p3)]) (by decide +kernel) (Nat.le_of_ble_eq_true rfl) rfl ?_
  intro p e s m below meth c ls htb S hr hlk hnm hZ hG hS hl
  obtain ⟨hx, hb, hml, hown, hts⟩ := id S
  have hk : 0 ≤ mc ∧ 0 ≤ ms := ⟨Nat.zero_le _, Nat.zero_le _⟩
  refine lv_aload_n hx hb d_M_insert_0 rfl (lv_at hl 0 rfl) ?_
  refine lv_iconst (v := (0 : Int32)) hx hb d_M_insert_1 (by decide) ?_
  refine r_putI (f := 56) S hZ hG hS rfl h.1 (hts _ tw_785) (fun _ h9 => h9) (Or.inl rfl) d_M_insert_2 (fun g11 H locs e9 hG hS => ?_)
  replace h := h.2 g11 e9
  refine lv_aload_n hx hb d_M_insert_5 rfl (lv_at hl 0 rfl) ?_
  refine lv_iload_n hx hb d_M_insert_6 rfl (lv_at hl 1 rfl) ?_
  refine lv_iload_n hx hb d_M_insert_7 rfl (lv_at hl 2 rfl) ?_
  refine lv_iload_n hx hb d_M_insert_8 rfl (lv_at hl 3 rfl) ?_
  refine lv_iload hx hb d_M_insert_9 (lv_at hl 4 rfl) ?_
  obtain ⟨h9, h⟩ := h
  obtain ⟨c12, c13, k1, k2, h⟩ := h
  obtain ⟨n9, h9⟩ := isK1 h9
  refine x_callI (xrun_V (As := [.int p0, .int p1, .int p2, .int p3]) (rest := []) S hZ hG hS (s_M_insert0 hst h) tw_890 tw_887 tw_889 tp_38 tw_8 nk_M_insert0 h9 (by decide) rfl ⟨Nat.le_of_ble_eq_true rfl, Nat.le_of_ble_eq_true rfl⟩ rfl hl.1 rfl (by decide) d_M_insert_11 ⟨k1, k2⟩) hS (fun i9 ce q9 g17 H locs hi h31 hG hS hq1 hq2 hq3 => ?_) (fun x15 g14 H locs h30 hG hS => ?_)
  · have hk := And.intro k1 k2
    replace h := h31
    rcases h with ⟨rfl, h⟩ | ⟨rfl, h⟩ | ⟨rfl, h⟩ | ⟨rfl, h⟩
    · refine r_catch (i := 1) S hZ (by decide) [⟨5, 14, 15, 27⟩] ⟨5, 14, 25, 41⟩ [⟨5, 14, 35, 110⟩, ⟨5, 14, 45, 44⟩] htb (List.forall_mem_cons.mpr ⟨⟨by decide, 3, by decide, by decide, tw_885⟩, (fun y hy => nomatch hy)⟩) (by decide) (by decide) tw_808 hq1 hq2 hq3 ?_
      refine q_astore (o := (some q9)) (lv' := [(0, .ref this), (1, .int p0), (2, .int p1), (3, .int p2), (4, .int p3)]) hx hb d_M_insert_25 hl (by decide) (.k 0 rfl (by decide) (by decide) (.k 1 rfl (by decide) (by decide) (.k 2 rfl (by decide) (by decide) (.k 3 rfl (by decide) (by decide) (.c 4 rfl (by decide) rfl .e))))) (fun ls19 hl19 => ?_)
      refine lv_aload_n hx hb d_M_insert_27 rfl (lv_at hl19 0 rfl) ?_
      refine lv_iconst (v := (2 : Int32)) hx hb d_M_insert_28 (by decide) ?_
      refine r_putI (f := 56) S hZ hG hS rfl h.1 (hts _ tw_785) (fun _ h9 => h9) (Or.inl rfl) d_M_insert_29 (fun g20 H locs e9 hG hS => ?_)
      replace h := h.2 g20 e9
      refine lv_goto (tgt := 52) hx hb d_M_insert_32 (by decide) ?_
      refine lv_iconst (v := (0 : Int32)) hx hb d_M_insert_52 (by decide) ?_
      exact r_iret (v := (0 : Int32)) S hr hlk hG hS h hk.1 hk.2 d_M_insert_53
    · refine r_catch (i := 2) S hZ (by decide) [⟨5, 14, 15, 27⟩, ⟨5, 14, 25, 41⟩, ⟨5, 14, 35, 110⟩] ⟨5, 14, 45, 44⟩ [] htb (List.forall_mem_cons.mpr ⟨⟨by decide, 3, by decide, by decide, tw_885⟩, (List.forall_mem_cons.mpr ⟨⟨by decide, 1, by decide, by decide, tw_808⟩, (List.forall_mem_cons.mpr ⟨⟨by decide, 4, by decide, by decide, tw_886⟩, (fun y hy => nomatch hy)⟩)⟩)⟩) (by decide) (by decide) tw_809 hq1 hq2 hq3 ?_
      refine q_astore (o := (some q9)) (lv' := [(0, .ref this), (1, .int p0), (2, .int p1), (3, .int p2), (4, .int p3)]) hx hb d_M_insert_45 hl (by decide) (.k 0 rfl (by decide) (by decide) (.k 1 rfl (by decide) (by decide) (.k 2 rfl (by decide) (by decide) (.k 3 rfl (by decide) (by decide) (.c 4 rfl (by decide) rfl .e))))) (fun ls22 hl22 => ?_)
      refine lv_aload_n hx hb d_M_insert_47 rfl (lv_at hl22 0 rfl) ?_
      refine lv_iconst (v := (4 : Int32)) hx hb d_M_insert_48 (by decide) ?_
      refine r_putI (f := 56) S hZ hG hS rfl h.1 (hts _ tw_785) (fun _ h9 => h9) (Or.inl rfl) d_M_insert_49 (fun g23 H locs e9 hG hS => ?_)
      replace h := h.2 g23 e9
      refine lv_iconst (v := (0 : Int32)) hx hb d_M_insert_52 (by decide) ?_
      exact r_iret (v := (0 : Int32)) S hr hlk hG hS h hk.1 hk.2 d_M_insert_53
    · refine r_catch (i := 3) S hZ (by decide) [] ⟨5, 14, 15, 27⟩ [⟨5, 14, 25, 41⟩, ⟨5, 14, 35, 110⟩, ⟨5, 14, 45, 44⟩] htb (fun y hy => nomatch hy) (by decide) (by decide) tw_885 hq1 hq2 hq3 ?_
      refine q_astore (o := (some q9)) (lv' := [(0, .ref this), (1, .int p0), (2, .int p1), (3, .int p2), (4, .int p3)]) hx hb d_M_insert_15 hl (by decide) (.k 0 rfl (by decide) (by decide) (.k 1 rfl (by decide) (by decide) (.k 2 rfl (by decide) (by decide) (.k 3 rfl (by decide) (by decide) (.c 4 rfl (by decide) rfl .e))))) (fun ls25 hl25 => ?_)
      refine lv_aload_n hx hb d_M_insert_17 rfl (lv_at hl25 0 rfl) ?_
      refine lv_iconst (v := (1 : Int32)) hx hb d_M_insert_18 (by decide) ?_
      refine r_putI (f := 56) S hZ hG hS rfl h.1 (hts _ tw_785) (fun _ h9 => h9) (Or.inl rfl) d_M_insert_19 (fun g26 H locs e9 hG hS => ?_)
      replace h := h.2 g26 e9
      refine lv_goto (tgt := 52) hx hb d_M_insert_22 (by decide) ?_
      refine lv_iconst (v := (0 : Int32)) hx hb d_M_insert_52 (by decide) ?_
      exact r_iret (v := (0 : Int32)) S hr hlk hG hS h hk.1 hk.2 d_M_insert_53
    · refine r_catch (i := 4) S hZ (by decide) [⟨5, 14, 15, 27⟩, ⟨5, 14, 25, 41⟩] ⟨5, 14, 35, 110⟩ [⟨5, 14, 45, 44⟩] htb (List.forall_mem_cons.mpr ⟨⟨by decide, 3, by decide, by decide, tw_885⟩, (List.forall_mem_cons.mpr ⟨⟨by decide, 1, by decide, by decide, tw_808⟩, (fun y hy => nomatch hy)⟩)⟩) (by decide) (by decide) tw_886 hq1 hq2 hq3 ?_
      refine q_astore (o := (some q9)) (lv' := [(0, .ref this), (1, .int p0), (2, .int p1), (3, .int p2), (4, .int p3)]) hx hb d_M_insert_35 hl (by decide) (.k 0 rfl (by decide) (by decide) (.k 1 rfl (by decide) (by decide) (.k 2 rfl (by decide) (by decide) (.k 3 rfl (by decide) (by decide) (.c 4 rfl (by decide) rfl .e))))) (fun ls28 hl28 => ?_)
      refine lv_aload_n hx hb d_M_insert_37 rfl (lv_at hl28 0 rfl) ?_
      refine lv_iconst (v := (3 : Int32)) hx hb d_M_insert_38 (by decide) ?_
      refine r_putI (f := 56) S hZ hG hS rfl h.1 (hts _ tw_785) (fun _ h9 => h9) (Or.inl rfl) d_M_insert_39 (fun g29 H locs e9 hG hS => ?_)
      replace h := h.2 g29 e9
      refine lv_goto (tgt := 52) hx hb d_M_insert_42 (by decide) ?_
      refine lv_iconst (v := (0 : Int32)) hx hb d_M_insert_52 (by decide) ?_
      exact r_iret (v := (0 : Int32)) S hr hlk hG hS h hk.1 hk.2 d_M_insert_53
  · have hk := And.intro k1 k2
    replace h := h30
    exact r_iret (v := x15) S hr hlk hG hS h hk.1 hk.2 d_M_insert_14
def w_G_erase (z mi mc ms : Nat) (post : Sg → Prop) (g : Sg) (this : Nat) (p0 : Int32) (p1 : Int32) : Prop := (hasR g this 50 ∧ ∀ o11 : Option Nat, o11 = fR g 50 this → (hasR g this 37 ∧ ∀ o12 : Option Nat, o12 = fR g 37 this → (isK g this [5] ∧ ∃ c13 c14 : Nat, 0 + c13 ≤ mc ∧ 0 + c14 ≤ ms ∧ w_G_seenAt z mi c13 c14 (fun (x16 : Int32) (g15 : Sg) => ∃ a17, o11 = some a17 ∧ (∃ j18 : Nat, inA g15 a17 100 x16 j18 ∧ ∀ x19 : Int32, x19 = aI g15 a17 j18 → (hasR g15 this 39 ∧ ∀ o21 : Option Nat, o21 = fR g15 39 this → ∃ a22, o21 = some a22 ∧ (∃ j23 : Nat, inA g15 a22 100 p0 j23 ∧ ∀ g24 : Sg, g24 = sI g15 a22 j23 p1 → (hasR g24 this 38 ∧ ∀ o25 : Option Nat, o25 = fR g24 38 this → ∃ a26, o25 = some a26 ∧ (∃ j27 : Nat, inA g24 a26 102 p0 j27 ∧ ∀ g28 : Sg, g28 = sI g24 a26 j27 (vp_nar .boolean (0 : Int32)) → (hasR g28 this 47 ∧ ∀ o29 : Option Nat, o29 = fR g28 47 this → ∃ a30, o29 = some a30 ∧ (∃ j31 : Nat, inA g28 a30 100 p0 j31 ∧ ∀ g32 : Sg, g32 = sI g28 a30 j31 x19 → (hasR g32 this 48 ∧ ∀ o33 : Option Nat, o33 = fR g32 48 this → (hasR g32 this 49 ∧ ∀ o34 : Option Nat, o34 = fR g32 49 this → ∃ a35, o34 = some a35 ∧ (∃ j36 : Nat, inA g32 a35 100 x19 j36 ∧ ∀ x37 : Int32, x37 = aI g32 a35 j36 → ∃ a38, o33 = some a38 ∧ (∃ j39 : Nat, inA g32 a38 100 p0 j39 ∧ ∀ g40 : Sg, g40 = sI g32 a38 j39 x37 → (hasR g40 this 49 ∧ ∀ o41 : Option Nat, o41 = fR g40 49 this → ∃ a42, o41 = some a42 ∧ (∃ j43 : Nat, inA g40 a42 100 x19 j43 ∧ ∀ g44 : Sg, g44 = sI g40 a42 j43 p0 → post g44)))))))))))))) g this o12 ((16 : Int32) * p0) p1)))
set_option maxHeartbeats 4000000 in
set_option maxRecDepth 100000 in
theorem s_G_erase {l : Launch} {D : va_G} {cA : Nat → ClassId} {sz z mi mc ms : Nat} {g : Sg} {post : Sg → Prop} {this : Nat} {p0 : Int32} {p1 : Int32} (h : w_G_erase z mi mc ms post g this p0 p1) : Met l y_G_erase (Cond.code y_G_erase b_G_erase 4 none :: TBL) ({ frames := 3, cells := mc, slots := ms, locals := 72 } : Room) (Pg D cA sz z mi [.ref this, .int p0, .int p1] g) (Qg D cA sz (pV post)) mc ms (oA sz) := by
  refine m_code (lv := [(0, .ref this), (1, .int p0), (2, .int p1)]) (by decide +kernel) (Nat.le_of_ble_eq_true rfl) rfl ?_
  intro p e s m below meth c ls S hr hlk hnm hZ hG hS hl
  obtain ⟨hx, hb, hml, hown, hts⟩ := id S
  have hk : 0 ≤ mc ∧ 0 ≤ ms := ⟨Nat.zero_le _, Nat.zero_le _⟩
  refine lv_aload_n hx hb d_G_erase_0 rfl (lv_at hl 0 rfl) ?_
  refine r_getR (f := 50) S hZ hG rfl h.1 (hts _ tw_731) (fun _ h9 => h9) d_G_erase_1 (fun o11 e9 => ?_)
  replace h := h.2 o11 e9
  refine lv_aload_n hx hb d_G_erase_4 rfl (lv_at hl 0 rfl) ?_
  refine lv_aload_n hx hb d_G_erase_5 rfl (lv_at hl 0 rfl) ?_
  refine r_getR (f := 37) S hZ hG rfl h.1 (hts _ tw_713) (fun _ h9 => h9) d_G_erase_6 (fun o12 e9 => ?_)
  replace h := h.2 o12 e9
  refine lv_bipush (v := (16 : Int32)) hx hb d_G_erase_9 (by decide) ?_
  refine lv_iload_n hx hb d_G_erase_11 rfl (lv_at hl 1 rfl) ?_
  refine lv_imul hx hb d_G_erase_12 ?_
  refine lv_iload_n hx hb d_G_erase_13 rfl (lv_at hl 2 rfl) ?_
  obtain ⟨h9, h⟩ := h
  obtain ⟨c13, c14, k1, k2, h⟩ := h
  obtain ⟨n9, h9⟩ := isK1 h9
  refine q_callI (run_V (As := [va_rf o12, .int ((16 : Int32) * p0), .int p1]) (rest := [va_rf o11]) S hZ hG hS (s_G_seenAt h) tw_929 tw_926 tw_927 tw_928 tw_9 nk_G_seenAt h9 (by decide) rfl ⟨Nat.le_of_ble_eq_true rfl, Nat.le_of_ble_eq_true rfl⟩ rfl hl.1 rfl (by simp [rf_cat, cat_i, cat_r, cat_l]) d_G_erase_14 ⟨k1, k2⟩) hS (fun x16 g15 H locs h45 hG hS => ?_)
  have hk := And.intro k1 k2
  replace h := h45
  obtain ⟨a17, e9, h⟩ := h
  subst e9
  obtain ⟨j18, h9, h⟩ := h
  refine r_iald S hZ hG h9 d_G_erase_17 (fun x19 e9 => ?_)
  replace h := h x19 e9
  refine q_istore_n (lv' := [(3, .int x19), (0, .ref this), (1, .int p0), (2, .int p1)]) hx hb d_G_erase_18 rfl hl (by decide) (.n (.k 0 rfl (by decide) (by decide) (.k 1 rfl (by decide) (by decide) (.c 2 rfl (by decide) rfl .e)))) (fun ls20 hl20 => ?_)
  refine lv_aload_n hx hb d_G_erase_19 rfl (lv_at hl20 1 rfl) ?_
  refine r_getR (f := 39) S hZ hG rfl h.1 (hts _ tw_717) (fun _ h9 => h9) d_G_erase_20 (fun o21 e9 => ?_)
  replace h := h.2 o21 e9
  refine lv_iload_n hx hb d_G_erase_23 rfl (lv_at hl20 2 rfl) ?_
  refine lv_iload_n hx hb d_G_erase_24 rfl (lv_at hl20 3 rfl) ?_
  obtain ⟨a22, e9, h⟩ := h
  subst e9
  obtain ⟨j23, h9, h⟩ := h
  refine r_iast S hZ hG hS h9 d_G_erase_25 (fun g24 H locs e9 hG hS => ?_)
  replace h := h g24 e9
  refine lv_aload_n hx hb d_G_erase_26 rfl (lv_at hl20 1 rfl) ?_
  refine r_getR (f := 38) S hZ hG rfl h.1 (hts _ tw_715) (fun _ h9 => h9) d_G_erase_27 (fun o25 e9 => ?_)
  replace h := h.2 o25 e9
  refine lv_iload_n hx hb d_G_erase_30 rfl (lv_at hl20 2 rfl) ?_
  refine lv_iconst (v := (0 : Int32)) hx hb d_G_erase_31 (by decide) ?_
  obtain ⟨a26, e9, h⟩ := h
  subst e9
  obtain ⟨j27, h9, h⟩ := h
  refine r_zast S hZ hG hS h9 d_G_erase_32 (fun g28 H locs e9 hG hS => ?_)
  replace h := h g28 e9
  refine lv_aload_n hx hb d_G_erase_33 rfl (lv_at hl20 1 rfl) ?_
  refine r_getR (f := 47) S hZ hG rfl h.1 (hts _ tw_726) (fun _ h9 => h9) d_G_erase_34 (fun o29 e9 => ?_)
  replace h := h.2 o29 e9
  refine lv_iload_n hx hb d_G_erase_37 rfl (lv_at hl20 2 rfl) ?_
  refine lv_iload_n hx hb d_G_erase_38 rfl (lv_at hl20 0 rfl) ?_
  obtain ⟨a30, e9, h⟩ := h
  subst e9
  obtain ⟨j31, h9, h⟩ := h
  refine r_iast S hZ hG hS h9 d_G_erase_39 (fun g32 H locs e9 hG hS => ?_)
  replace h := h g32 e9
  refine lv_aload_n hx hb d_G_erase_40 rfl (lv_at hl20 1 rfl) ?_
  refine r_getR (f := 48) S hZ hG rfl h.1 (hts _ tw_727) (fun _ h9 => h9) d_G_erase_41 (fun o33 e9 => ?_)
  replace h := h.2 o33 e9
  refine lv_iload_n hx hb d_G_erase_44 rfl (lv_at hl20 2 rfl) ?_
  refine lv_aload_n hx hb d_G_erase_45 rfl (lv_at hl20 1 rfl) ?_
  refine r_getR (f := 49) S hZ hG rfl h.1 (hts _ tw_729) (fun _ h9 => h9) d_G_erase_46 (fun o34 e9 => ?_)
  replace h := h.2 o34 e9
  refine lv_iload_n hx hb d_G_erase_49 rfl (lv_at hl20 0 rfl) ?_
  obtain ⟨a35, e9, h⟩ := h
  subst e9
  obtain ⟨j36, h9, h⟩ := h
  refine r_iald S hZ hG h9 d_G_erase_50 (fun x37 e9 => ?_)
  replace h := h x37 e9
  obtain ⟨a38, e9, h⟩ := h
  subst e9
  obtain ⟨j39, h9, h⟩ := h
  refine r_iast S hZ hG hS h9 d_G_erase_51 (fun g40 H locs e9 hG hS => ?_)
  replace h := h g40 e9
  refine lv_aload_n hx hb d_G_erase_52 rfl (lv_at hl20 1 rfl) ?_
  refine r_getR (f := 49) S hZ hG rfl h.1 (hts _ tw_729) (fun _ h9 => h9) d_G_erase_53 (fun o41 e9 => ?_)
  replace h := h.2 o41 e9
  refine lv_iload_n hx hb d_G_erase_56 rfl (lv_at hl20 0 rfl) ?_
  refine lv_iload_n hx hb d_G_erase_57 rfl (lv_at hl20 2 rfl) ?_
  obtain ⟨a42, e9, h⟩ := h
  subst e9
  obtain ⟨j43, h9, h⟩ := h
  refine r_iast S hZ hG hS h9 d_G_erase_58 (fun g44 H locs e9 hG hS => ?_)
  replace h := h g44 e9
  exact r_vret S hr hlk hG hS h hk.1 hk.2 d_G_erase_59
def w_M_delete0_61 (z mi mc ms : Nat) (post : Int32 → Sg → Prop) (px : Nat → Sg → Prop) : Nat → Nat → Nat → Sg → Nat → Int32 → Int32 → Int32 → Int32 → Prop
  | 0 => fun _ _ _ _ _ _ _ _ => False
  | n + 1 => fun kc ks g this v1 v2 v3 v4 => (v3 ≤ v4 → (hasR g this 51 ∧ ∀ o26 : Option Nat, o26 = fR g 51 this → ∃ a27, o26 = some a27 ∧ (isK g a27 [5] ∧ ∃ c28 c29 : Nat, kc + c28 ≤ mc ∧ ks + c29 ≤ ms ∧ w_G_length z mi c28 c29 (fun (x31 : Int32) (g30 : Sg) => post x31 g30) g a27))) ∧ (¬ v3 ≤ v4 → (hasR g this 51 ∧ ∀ o33 : Option Nat, o33 = fR g 51 this → (isK g this [6] ∧ ∃ c34 c35 : Nat, kc + c34 ≤ mc ∧ ks + c35 ≤ ms ∧ w_M_come z mi c34 c35 (fun (x37 : Int32) (g36 : Sg) => ∃ a38, o33 = some a38 ∧ (isK g36 a38 [5] ∧ ∃ c39 c40 : Nat, (kc + c34) + c39 ≤ mc ∧ (ks + c35) + c40 ≤ ms ∧ w_G_erase z mi c39 c40 (fun (g41 : Sg) => w_M_delete0_61 z mi mc ms post px n ((kc + c34) + c39) ((ks + c35) + c40) g41 this v1 v2 v3 (v4 + (1 : Int32))) g36 a38 x37 v2)) g this v1)))
set_option maxHeartbeats 4000000 in
set_option maxRecDepth 100000 in
theorem s_M_delete0_61 {p : Program} {l : Launch} {e : Env} {s : State} {m : MethodId} {args : Array Value} {below : List Frame} {meth : Method} {c : Code} {D : va_G} {cA : Nat → ClassId} {sz z mi mc ms : Nat} {post : Int32 → Sg → Prop} {px : Nat → Sg → Prop} (S : CallFix p m c b_M_delete0 5 s args TBL "WeaveCoreModel") (hst : l.stackTraces = false) (hZ : Ws D cA sz z mi s) (hr : meth.sig.returnType = (some FieldType.int)) (hlk : meth.locks = false) (hxt : ∀ x ∈ c.exceptionTable.toList, False) :
    ∀ n : Nat, ∀ (kc ks : Nat) (g : Sg) (this : Nat) (v1 : Int32) (v2 : Int32) (v3 : Int32) (v4 : Int32) (H : Heap) (locs : List Loc) (ls : Array Slot), kc ≤ mc ∧ ks ≤ ms → w_M_delete0_61 z mi mc ms post px n kc ks g this v1 v2 v3 v4 → WP D cA sz g H → va_S (oA sz) s.heap H locs → lv_has ls 5 [(0, .ref this), (1, .int v1), (2, .int v2), (3, .int v3), (4, .int v4)] → W p l e ({ frames := 8, cells := mc, slots := ms, locals := 138 } : Room) s m args below meth c H locs kc ks (vx_MQ below (Qg D cA sz (pI post)) (Xg D cA sz px) args s mc ms (oA sz)) (F0 m 61 ls []) := by
  obtain ⟨hx, hb, hml, hown, hts⟩ := id S
  intro n
  induction n with
  | zero =>
    intro kc ks g this v1 v2 v3 v4 H locs ls hk h hG hS hl
    exact h.elim
  | succ n ih =>
    intro kc ks g this v1 v2 v3 v4 H locs ls hk h hG hS hl
    refine lv_iload hx hb d_M_delete0_61 (lv_at hl 4 rfl) ?_
    refine lv_iload_n hx hb d_M_delete0_63 rfl (lv_at hl 3 rfl) ?_
    refine lv_icmp_ge (tgt := 86) hx hb d_M_delete0_64 (by decide) (fun c9 => ?_) (fun c9 => ?_)
    · replace h := h.1 c9
      refine lv_aload_n hx hb d_M_delete0_86 rfl (lv_at hl 0 rfl) ?_
      refine r_getR (f := 51) S hZ hG rfl h.1 (hts _ tw_780) (fun _ h9 => h9) d_M_delete0_87 (fun o26 e9 => ?_)
      replace h := h.2 o26 e9
      obtain ⟨a27, e9, h⟩ := h
      subst e9
      obtain ⟨h9, h⟩ := h
      obtain ⟨c28, c29, k1, k2, h⟩ := h
      obtain ⟨n9, h9⟩ := isK1 h9
      refine q_callI (run_V (As := []) (rest := []) S hZ hG hS (s_G_length h) tw_957 tw_954 tw_955 tw_956 tw_9 nk_G_length h9 (by decide) rfl ⟨Nat.le_of_ble_eq_true rfl, Nat.le_of_ble_eq_true rfl⟩ rfl hl.1 rfl (by decide) d_M_delete0_90 ⟨k1, k2⟩) hS (fun x31 g30 H locs h32 hG hS => ?_)
      have hk := And.intro k1 k2
      replace h := h32
      exact vx_ret (r_iret (v := x31) S hr hlk hG hS h hk.1 hk.2 d_M_delete0_93)
    · replace h := h.2 c9
      refine lv_aload_n hx hb d_M_delete0_67 rfl (lv_at hl 0 rfl) ?_
      refine r_getR (f := 51) S hZ hG rfl h.1 (hts _ tw_780) (fun _ h9 => h9) d_M_delete0_68 (fun o33 e9 => ?_)
      replace h := h.2 o33 e9
      refine lv_aload_n hx hb d_M_delete0_71 rfl (lv_at hl 0 rfl) ?_
      refine lv_iload_n hx hb d_M_delete0_72 rfl (lv_at hl 1 rfl) ?_
      obtain ⟨h9, h⟩ := h
      obtain ⟨c34, c35, k1, k2, h⟩ := h
      obtain ⟨n9, h9⟩ := isK1 h9
      refine q_callI (run_V (As := [.int v1]) (rest := [va_rf o33]) S hZ hG hS (s_M_come h) tw_912 tw_909 tw_911 tp_41 tw_8 nk_M_come h9 (by decide) rfl ⟨Nat.le_of_ble_eq_true rfl, Nat.le_of_ble_eq_true rfl⟩ rfl hl.1 rfl (by simp [rf_cat, cat_i, cat_r, cat_l]) d_M_delete0_73 ⟨k1, k2⟩) hS (fun x37 g36 H locs h44 hG hS => ?_)
      have hk := And.intro k1 k2
      replace h := h44
      refine lv_iload_n hx hb d_M_delete0_76 rfl (lv_at hl 2 rfl) ?_
      obtain ⟨a38, e9, h⟩ := h
      subst e9
      obtain ⟨h9, h⟩ := h
      obtain ⟨c39, c40, k1, k2, h⟩ := h
      obtain ⟨n9, h9⟩ := isK1 h9
      refine q_callV (run_V (As := [.int x37, .int v2]) (rest := []) S hZ hG hS (s_G_erase h) tw_973 tw_970 tw_971 tw_972 tw_9 nk_G_erase h9 (by decide) rfl ⟨Nat.le_of_ble_eq_true rfl, Nat.le_of_ble_eq_true rfl⟩ rfl hl.1 rfl (by decide) d_M_delete0_77 ⟨k1, k2⟩) hS (fun g41 H locs h43 hG hS => ?_)
      have hk := And.intro k1 k2
      replace h := h43
      refine q_iinc (k := 4) (v := v4 + (1 : Int32)) (lv' := [(4, .int (v4 + (1 : Int32))), (0, .ref this), (1, .int v1), (2, .int v2), (3, .int v3)]) hx hb d_M_delete0_80 hl rfl rfl (by decide) (.n (.k 0 rfl (by decide) (by decide) (.k 1 rfl (by decide) (by decide) (.k 2 rfl (by decide) (by decide) (.c 3 rfl (by decide) rfl .e))))) (fun ls42 hl42 => ?_)
      refine lv_goto (tgt := 61) hx hb d_M_delete0_83 (by decide) ?_
      exact ih _ _ _ _ _ _ _ _ _ _ _ hk h hG hS (lv_sub hl42 [1, 2, 3, 4, 0] rfl)
def w_M_delete0_30 (z mi mc ms : Nat) (post : Int32 → Sg → Prop) (px : Nat → Sg → Prop) : Nat → Nat → Sg → Nat → Int32 → Int32 → Int32 → Int32 → Prop := fun kc ks g this v1 v2 v3 s0 => (∃ c15 c16 : Nat, kc + c15 ≤ mc ∧ ks + c16 ≤ ms ∧ w_M_check z mi c15 c16 (fun (g17 : Sg) => (isK g17 this [6] ∧ ∃ c18 c19 : Nat, (kc + c15) + c18 ≤ mc ∧ (ks + c16) + c19 ≤ ms ∧ w_M_open z mi c18 c19 (fun (x21 : Int32) (g20 : Sg) => (v2 ≤ (x21 - v3) → (isK g20 this [6] ∧ ∃ c22 c23 : Nat, ((kc + c15) + c18) + c22 ≤ mc ∧ ((ks + c16) + c19) + c23 ≤ ms ∧ w_M_room z mi c22 c23 (fun (g24 : Sg) => (∃ n45 : Nat, w_M_delete0_61 z mi mc ms post px n45 (((kc + c15) + c18) + c22) (((ks + c16) + c19) + c23) g24 this v1 v2 v3 (0 : Int32))) px g20 this v1 v3)) ∧ (¬ v2 ≤ (x21 - v3) → ((kc + c15) + c18) + 1 ≤ mc ∧ ((ks + c16) + c19) + 6 ≤ ms ∧ px 4 g20)) px g17 this v1)) px g s0)
set_option maxHeartbeats 4000000 in
set_option maxRecDepth 100000 in
theorem s_M_delete0_30 {p : Program} {l : Launch} {e : Env} {s : State} {m : MethodId} {args : Array Value} {below : List Frame} {meth : Method} {c : Code} {D : va_G} {cA : Nat → ClassId} {sz z mi mc ms : Nat} {post : Int32 → Sg → Prop} {px : Nat → Sg → Prop} (S : CallFix p m c b_M_delete0 5 s args TBL "WeaveCoreModel") (hst : l.stackTraces = false) (hZ : Ws D cA sz z mi s) (hr : meth.sig.returnType = (some FieldType.int)) (hlk : meth.locks = false) (hxt : ∀ x ∈ c.exceptionTable.toList, False) :
    ∀ (kc ks : Nat) (g : Sg) (this : Nat) (v1 : Int32) (v2 : Int32) (v3 : Int32) (s0 : Int32) (H : Heap) (locs : List Loc) (ls : Array Slot), kc ≤ mc ∧ ks ≤ ms → w_M_delete0_30 z mi mc ms post px kc ks g this v1 v2 v3 s0 → WP D cA sz g H → va_S (oA sz) s.heap H locs → lv_has ls 5 [(0, .ref this), (1, .int v1), (2, .int v2), (3, .int v3)] → W p l e ({ frames := 8, cells := mc, slots := ms, locals := 138 } : Room) s m args below meth c H locs kc ks (vx_MQ below (Qg D cA sz (pI post)) (Xg D cA sz px) args s mc ms (oA sz)) (F0 m 30 ls [.int s0]) := by
  obtain ⟨hx, hb, hml, hown, hts⟩ := id S
  intro kc ks g this v1 v2 v3 s0 H locs ls hk h hG hS hl
  obtain ⟨c15, c16, k1, k2, h⟩ := h
  refine x_callV (xrun_S (As := [.int s0]) (rest := []) S hZ hG hS (s_M_check hst h) tw_897 tw_895 tw_896 tw_8 nk_M_check ⟨Nat.le_of_ble_eq_true rfl, Nat.le_of_ble_eq_true rfl⟩ rfl hl.1 rfl (by decide) d_M_delete0_30 ⟨k1, k2⟩) hS (fun i9 ce q9 g9 H locs hi h54 hG hS hq1 hq2 hq3 => ?_) (fun g17 H locs h53 hG hS => ?_)
  · have hk := And.intro k1 k2
    replace h := h54
    exact r_out (fun x hx => (hxt x hx).elim) hlk hG hS hi h hq1 hq2 hq3 hk.1 hk.2
  · have hk := And.intro k1 k2
    replace h := h53
    refine lv_iload_n hx hb d_M_delete0_33 rfl (lv_at hl 2 rfl) ?_
    refine lv_aload_n hx hb d_M_delete0_34 rfl (lv_at hl 0 rfl) ?_
    refine lv_iload_n hx hb d_M_delete0_35 rfl (lv_at hl 1 rfl) ?_
    obtain ⟨h9, h⟩ := h
    obtain ⟨c18, c19, k1, k2, h⟩ := h
    obtain ⟨n9, h9⟩ := isK1 h9
    refine x_callI (xrun_V (As := [.int v1]) (rest := [.int v2]) S hZ hG hS (s_M_open hst h) tw_902 tw_899 tw_901 tp_39 tw_8 nk_M_open h9 (by decide) rfl ⟨Nat.le_of_ble_eq_true rfl, Nat.le_of_ble_eq_true rfl⟩ rfl hl.1 rfl (Nat.le_of_ble_eq_true rfl) d_M_delete0_36 ⟨k1, k2⟩) hS (fun i9 ce q9 g9 H locs hi h51 hG hS hq1 hq2 hq3 => ?_) (fun x21 g20 H locs h50 hG hS => ?_)
    · have hk := And.intro k1 k2
      replace h := h51
      exact r_out (fun x hx => (hxt x hx).elim) hlk hG hS hi h hq1 hq2 hq3 hk.1 hk.2
    · have hk := And.intro k1 k2
      replace h := h50
      refine lv_iload_n hx hb d_M_delete0_39 rfl (lv_at hl 3 rfl) ?_
      refine lv_isub hx hb d_M_delete0_40 ?_
      refine lv_icmp_le (tgt := 52) hx hb d_M_delete0_41 (by decide) (fun c9 => ?_) (fun c9 => ?_)
      · replace h := h.1 c9
        refine lv_aload_n hx hb d_M_delete0_52 rfl (lv_at hl 0 rfl) ?_
        refine lv_iload_n hx hb d_M_delete0_53 rfl (lv_at hl 1 rfl) ?_
        refine lv_iload_n hx hb d_M_delete0_54 rfl (lv_at hl 3 rfl) ?_
        obtain ⟨h9, h⟩ := h
        obtain ⟨c22, c23, k1, k2, h⟩ := h
        obtain ⟨n9, h9⟩ := isK1 h9
        refine x_callV (xrun_V (As := [.int v1, .int v3]) (rest := []) S hZ hG hS (s_M_room hst h) tw_908 tw_905 tw_907 tp_40 tw_8 nk_M_room h9 (by decide) rfl ⟨Nat.le_of_ble_eq_true rfl, Nat.le_of_ble_eq_true rfl⟩ rfl hl.1 rfl (by decide) d_M_delete0_55 ⟨k1, k2⟩) hS (fun i9 ce q9 g9 H locs hi h48 hG hS hq1 hq2 hq3 => ?_) (fun g24 H locs h47 hG hS => ?_)
        · have hk := And.intro k1 k2
          replace h := h48
          exact r_out (fun x hx => (hxt x hx).elim) hlk hG hS hi h hq1 hq2 hq3 hk.1 hk.2
        · have hk := And.intro k1 k2
          replace h := h47
          refine lv_iconst (v := (0 : Int32)) hx hb d_M_delete0_58 (by decide) ?_
          refine q_istore (lv' := [(4, .int ((0 : Int32))), (0, .ref this), (1, .int v1), (2, .int v2), (3, .int v3)]) hx hb d_M_delete0_59 hl (by decide) (.n (.k 0 rfl (by decide) (by decide) (.k 1 rfl (by decide) (by decide) (.k 2 rfl (by decide) (by decide) (.c 3 rfl (by decide) rfl .e))))) (fun ls25 hl25 => ?_)
          obtain ⟨n45, h⟩ := h
          exact s_M_delete0_61 S hst hZ hr hlk hxt n45 _ _ _ _ _ _ _ _ _ _ _ hk h hG hS (lv_sub hl25 [1, 2, 3, 4, 0] rfl)
      · replace h := h.2 c9
        exact r_throw (i := 4) S hst hZ hG hS (by decide) tw_886 tw_21 xa_M_110_112 xb_M_110_112 xo_M_110_112 hl.1 d_M_delete0_44 d_M_delete0_47 d_M_delete0_48 d_M_delete0_51 (fun x hx => (hxt x hx).elim) (Nat.le_of_ble_eq_true rfl) (Nat.le_of_ble_eq_true rfl) rfl rfl hlk h.2.2 h.1 h.2.1
def w_M_delete0_29 (z mi mc ms : Nat) (post : Int32 → Sg → Prop) (px : Nat → Sg → Prop) : Nat → Nat → Sg → Nat → Int32 → Int32 → Int32 → Prop := fun kc ks g this v1 v2 v3 => w_M_delete0_30 z mi mc ms post px kc ks g this v1 v2 v3 (0 : Int32)
set_option maxHeartbeats 4000000 in
set_option maxRecDepth 100000 in
theorem s_M_delete0_29 {p : Program} {l : Launch} {e : Env} {s : State} {m : MethodId} {args : Array Value} {below : List Frame} {meth : Method} {c : Code} {D : va_G} {cA : Nat → ClassId} {sz z mi mc ms : Nat} {post : Int32 → Sg → Prop} {px : Nat → Sg → Prop} (S : CallFix p m c b_M_delete0 5 s args TBL "WeaveCoreModel") (hst : l.stackTraces = false) (hZ : Ws D cA sz z mi s) (hr : meth.sig.returnType = (some FieldType.int)) (hlk : meth.locks = false) (hxt : ∀ x ∈ c.exceptionTable.toList, False) :
    ∀ (kc ks : Nat) (g : Sg) (this : Nat) (v1 : Int32) (v2 : Int32) (v3 : Int32) (H : Heap) (locs : List Loc) (ls : Array Slot), kc ≤ mc ∧ ks ≤ ms → w_M_delete0_29 z mi mc ms post px kc ks g this v1 v2 v3 → WP D cA sz g H → va_S (oA sz) s.heap H locs → lv_has ls 5 [(0, .ref this), (1, .int v1), (2, .int v2), (3, .int v3)] → W p l e ({ frames := 8, cells := mc, slots := ms, locals := 138 } : Room) s m args below meth c H locs kc ks (vx_MQ below (Qg D cA sz (pI post)) (Xg D cA sz px) args s mc ms (oA sz)) (F0 m 29 ls []) := by
  obtain ⟨hx, hb, hml, hown, hts⟩ := id S
  intro kc ks g this v1 v2 v3 H locs ls hk h hG hS hl
  refine lv_iconst (v := (0 : Int32)) hx hb d_M_delete0_29 (by decide) ?_
  exact s_M_delete0_30 S hst hZ hr hlk hxt _ _ _ _ _ _ _ _ _ _ _ hk h hG hS (lv_sub hl [0, 1, 2, 3] rfl)
def w_M_delete0 (z mi mc ms : Nat) (post : Int32 → Sg → Prop) (px : Nat → Sg → Prop) (g : Sg) (this : Nat) (p0 : Int32) (p1 : Int32) (p2 : Int32) : Prop := (∃ c11 c12 : Nat, 0 + c11 ≤ mc ∧ 0 + c12 ≤ ms ∧ w_M_in z mi c11 c12 (fun (x14 : Int32) (g13 : Sg) => (x14 = 0 → w_M_delete0_29 z mi mc ms post px (0 + c11) (0 + c12) g13 this p0 p1 p2) ∧ (¬ x14 = 0 → (∃ c55 c56 : Nat, (0 + c11) + c55 ≤ mc ∧ (0 + c12) + c56 ≤ ms ∧ w_M_in z mi c55 c56 (fun (x58 : Int32) (g57 : Sg) => (x58 = 0 → w_M_delete0_29 z mi mc ms post px ((0 + c11) + c55) ((0 + c12) + c56) g57 this p0 p1 p2) ∧ (¬ x58 = 0 → (p1 < 0 → w_M_delete0_29 z mi mc ms post px ((0 + c11) + c55) ((0 + c12) + c56) g57 this p0 p1 p2) ∧ (¬ p1 < 0 → w_M_delete0_30 z mi mc ms post px ((0 + c11) + c55) ((0 + c12) + c56) g57 this p0 p1 p2 (1 : Int32)))) g13 p2 (1 : Int32) (100 : Int32)))) g p0 (0 : Int32) (255 : Int32))
set_option maxHeartbeats 4000000 in
set_option maxRecDepth 100000 in
theorem s_M_delete0 {l : Launch} {D : va_G} {cA : Nat → ClassId} {sz z mi mc ms : Nat} {g : Sg} {post : Int32 → Sg → Prop} {px : Nat → Sg → Prop} {this : Nat} {p0 : Int32} {p1 : Int32} {p2 : Int32} (hst : l.stackTraces = false) (h : w_M_delete0 z mi mc ms post px g this p0 p1 p2) : vx_Met l y_M_delete0 (Cond.code y_M_delete0 b_M_delete0 5 (some FieldType.int) :: TBL) ({ frames := 8, cells := mc, slots := ms, locals := 138 } : Room) (Pg D cA sz z mi [.ref this, .int p0, .int p1, .int p2] g) (Qg D cA sz (pI post)) (Xg D cA sz px) mc ms (oA sz) := by
  refine m_codeX (lv := [(0, .ref this), (1, .int p0), (2, .int p1), (3, .int p2)]) (by decide +kernel) (Nat.le_of_ble_eq_true rfl) rfl ?_
  intro p e s m below meth c ls hxt S hr hlk hnm hZ hG hS hl
  obtain ⟨hx, hb, hml, hown, hts⟩ := id S
  have hk : 0 ≤ mc ∧ 0 ≤ ms := ⟨Nat.zero_le _, Nat.zero_le _⟩
  refine lv_iload_n hx hb d_M_delete0_0 rfl (lv_at hl 1 rfl) ?_
  refine lv_iconst (v := (0 : Int32)) hx hb d_M_delete0_1 (by decide) ?_
  refine lv_sipush (v := (255 : Int32)) hx hb d_M_delete0_2 (by decide) ?_
  obtain ⟨c11, c12, k1, k2, h⟩ := h
  refine q_callI (run_S (As := [.int p0, .int ((0 : Int32)), .int ((255 : Int32))]) (rest := []) S hZ hG hS (s_M_in h) tw_893 tw_891 tw_892 tw_8 nk_M_in ⟨Nat.le_of_ble_eq_true rfl, Nat.le_of_ble_eq_true rfl⟩ rfl hl.1 rfl (by decide) d_M_delete0_5 ⟨k1, k2⟩) hS (fun x14 g13 H locs h60 hG hS => ?_)
  have hk := And.intro k1 k2
  replace h := h60
  refine lv_if_eq (tgt := 29) hx hb d_M_delete0_8 (by decide) (fun c9 => ?_) (fun c9 => ?_)
  · replace h := h.1 c9
    exact s_M_delete0_29 S hst hZ hr hlk hxt _ _ _ _ _ _ _ _ _ _ hk h hG hS (lv_sub hl [0, 1, 2, 3] rfl)
  · replace h := h.2 c9
    refine lv_iload_n hx hb d_M_delete0_11 rfl (lv_at hl 3 rfl) ?_
    refine lv_iconst (v := (1 : Int32)) hx hb d_M_delete0_12 (by decide) ?_
    refine lv_bipush (v := (100 : Int32)) hx hb d_M_delete0_13 (by decide) ?_
    obtain ⟨c55, c56, k1, k2, h⟩ := h
    refine q_callI (run_S (As := [.int p2, .int ((1 : Int32)), .int ((100 : Int32))]) (rest := []) S hZ hG hS (s_M_in h) tw_893 tw_891 tw_892 tw_8 nk_M_in ⟨Nat.le_of_ble_eq_true rfl, Nat.le_of_ble_eq_true rfl⟩ rfl hl.1 rfl (by decide) d_M_delete0_15 ⟨k1, k2⟩) hS (fun x58 g57 H locs h59 hG hS => ?_)
    have hk := And.intro k1 k2
    replace h := h59
    refine lv_if_eq (tgt := 29) hx hb d_M_delete0_18 (by decide) (fun c9 => ?_) (fun c9 => ?_)
    · replace h := h.1 c9
      exact s_M_delete0_29 S hst hZ hr hlk hxt _ _ _ _ _ _ _ _ _ _ hk h hG hS (lv_sub hl [0, 1, 2, 3] rfl)
    · replace h := h.2 c9
      refine lv_iload_n hx hb d_M_delete0_21 rfl (lv_at hl 2 rfl) ?_
      refine lv_if_lt (tgt := 29) hx hb d_M_delete0_22 (by decide) (fun c9 => ?_) (fun c9 => ?_)
      · replace h := h.1 c9
        exact s_M_delete0_29 S hst hZ hr hlk hxt _ _ _ _ _ _ _ _ _ _ hk h hG hS (lv_sub hl [0, 1, 2, 3] rfl)
      · replace h := h.2 c9
        refine lv_iconst (v := (1 : Int32)) hx hb d_M_delete0_25 (by decide) ?_
        refine lv_goto (tgt := 30) hx hb d_M_delete0_26 (by decide) ?_
        exact s_M_delete0_30 S hst hZ hr hlk hxt _ _ _ _ _ _ _ _ _ _ _ hk h hG hS (lv_sub hl [0, 1, 2, 3] rfl)
def w_M_delete (z mi mc ms : Nat) (post : Int32 → Sg → Prop) (g : Sg) (this : Nat) (p0 : Int32) (p1 : Int32) (p2 : Int32) : Prop := (hasI g this 56 ∧ ∀ g11 : Sg, g11 = wI g 56 this (0 : Int32) → (isK g11 this [6] ∧ ∃ c12 c13 : Nat, 0 + c12 ≤ mc ∧ 0 + c13 ≤ ms ∧ w_M_delete0 z mi c12 c13 (fun (x15 : Int32) (g14 : Sg) => post x15 g14) (fun (i16 : Nat) (g17 : Sg) => (i16 = 1 ∧ (hasI g17 this 56 ∧ ∀ g20 : Sg, g20 = wI g17 56 this (2 : Int32) → post (0 : Int32) g20)) ∨ (i16 = 2 ∧ (hasI g17 this 56 ∧ ∀ g23 : Sg, g23 = wI g17 56 this (4 : Int32) → post (0 : Int32) g23)) ∨ (i16 = 3 ∧ (hasI g17 this 56 ∧ ∀ g26 : Sg, g26 = wI g17 56 this (1 : Int32) → post (0 : Int32) g26)) ∨ (i16 = 4 ∧ (hasI g17 this 56 ∧ ∀ g29 : Sg, g29 = wI g17 56 this (3 : Int32) → post (0 : Int32) g29))) g11 this p0 p1 p2))
set_option maxHeartbeats 4000000 in
set_option maxRecDepth 100000 in
theorem s_M_delete {l : Launch} {D : va_G} {cA : Nat → ClassId} {sz z mi mc ms : Nat} {g : Sg} {post : Int32 → Sg → Prop} {this : Nat} {p0 : Int32} {p1 : Int32} {p2 : Int32} (hst : l.stackTraces = false) (h : w_M_delete z mi mc ms post g this p0 p1 p2) : Met l y_M_delete (Cond.codeWith y_M_delete b_M_delete 5 (some FieldType.int) [(5, 12, 13, 27), (5, 12, 23, 41), (5, 12, 33, 110), (5, 12, 43, 44)] :: TBL) ({ frames := 9, cells := mc, slots := ms, locals := 162 } : Room) (Pg D cA sz z mi [.ref this, .int p0, .int p1, .int p2] g) (Qg D cA sz (pI post)) mc ms (oA sz) := by
  refine m_codeW (lv := [(0, .ref this), (1, .int p0), (2, .int p1), (3, .int p2)]) (by decide +kernel) (Nat.le_of_ble_eq_true rfl) rfl ?_
  intro p e s m below meth c ls htb S hr hlk hnm hZ hG hS hl
  obtain ⟨hx, hb, hml, hown, hts⟩ := id S
  have hk : 0 ≤ mc ∧ 0 ≤ ms := ⟨Nat.zero_le _, Nat.zero_le _⟩
  refine lv_aload_n hx hb d_M_delete_0 rfl (lv_at hl 0 rfl) ?_
  refine lv_iconst (v := (0 : Int32)) hx hb d_M_delete_1 (by decide) ?_
  refine r_putI (f := 56) S hZ hG hS rfl h.1 (hts _ tw_785) (fun _ h9 => h9) (Or.inl rfl) d_M_delete_2 (fun g11 H locs e9 hG hS => ?_)
  replace h := h.2 g11 e9
  refine lv_aload_n hx hb d_M_delete_5 rfl (lv_at hl 0 rfl) ?_
  refine lv_iload_n hx hb d_M_delete_6 rfl (lv_at hl 1 rfl) ?_
  refine lv_iload_n hx hb d_M_delete_7 rfl (lv_at hl 2 rfl) ?_
  refine lv_iload_n hx hb d_M_delete_8 rfl (lv_at hl 3 rfl) ?_
  obtain ⟨h9, h⟩ := h
  obtain ⟨c12, c13, k1, k2, h⟩ := h
  obtain ⟨n9, h9⟩ := isK1 h9
  refine x_callI (xrun_V (As := [.int p0, .int p1, .int p2]) (rest := []) S hZ hG hS (s_M_delete0 hst h) tw_969 tw_966 tw_968 tp_48 tw_8 nk_M_delete0 h9 (by decide) rfl ⟨Nat.le_of_ble_eq_true rfl, Nat.le_of_ble_eq_true rfl⟩ rfl hl.1 rfl (by decide) d_M_delete_9 ⟨k1, k2⟩) hS (fun i9 ce q9 g17 H locs hi h31 hG hS hq1 hq2 hq3 => ?_) (fun x15 g14 H locs h30 hG hS => ?_)
  · have hk := And.intro k1 k2
    replace h := h31
    rcases h with ⟨rfl, h⟩ | ⟨rfl, h⟩ | ⟨rfl, h⟩ | ⟨rfl, h⟩
    · refine r_catch (i := 1) S hZ (by decide) [⟨5, 12, 13, 27⟩] ⟨5, 12, 23, 41⟩ [⟨5, 12, 33, 110⟩, ⟨5, 12, 43, 44⟩] htb (List.forall_mem_cons.mpr ⟨⟨by decide, 3, by decide, by decide, tw_885⟩, (fun y hy => nomatch hy)⟩) (by decide) (by decide) tw_808 hq1 hq2 hq3 ?_
      refine q_astore (o := (some q9)) (lv' := [(0, .ref this), (1, .int p0), (2, .int p1), (3, .int p2)]) hx hb d_M_delete_23 hl (by decide) (.k 0 rfl (by decide) (by decide) (.k 1 rfl (by decide) (by decide) (.k 2 rfl (by decide) (by decide) (.c 3 rfl (by decide) rfl .e)))) (fun ls19 hl19 => ?_)
      refine lv_aload_n hx hb d_M_delete_25 rfl (lv_at hl19 0 rfl) ?_
      refine lv_iconst (v := (2 : Int32)) hx hb d_M_delete_26 (by decide) ?_
      refine r_putI (f := 56) S hZ hG hS rfl h.1 (hts _ tw_785) (fun _ h9 => h9) (Or.inl rfl) d_M_delete_27 (fun g20 H locs e9 hG hS => ?_)
      replace h := h.2 g20 e9
      refine lv_goto (tgt := 50) hx hb d_M_delete_30 (by decide) ?_
      refine lv_iconst (v := (0 : Int32)) hx hb d_M_delete_50 (by decide) ?_
      exact r_iret (v := (0 : Int32)) S hr hlk hG hS h hk.1 hk.2 d_M_delete_51
    · refine r_catch (i := 2) S hZ (by decide) [⟨5, 12, 13, 27⟩, ⟨5, 12, 23, 41⟩, ⟨5, 12, 33, 110⟩] ⟨5, 12, 43, 44⟩ [] htb (List.forall_mem_cons.mpr ⟨⟨by decide, 3, by decide, by decide, tw_885⟩, (List.forall_mem_cons.mpr ⟨⟨by decide, 1, by decide, by decide, tw_808⟩, (List.forall_mem_cons.mpr ⟨⟨by decide, 4, by decide, by decide, tw_886⟩, (fun y hy => nomatch hy)⟩)⟩)⟩) (by decide) (by decide) tw_809 hq1 hq2 hq3 ?_
      refine q_astore (o := (some q9)) (lv' := [(0, .ref this), (1, .int p0), (2, .int p1), (3, .int p2)]) hx hb d_M_delete_43 hl (by decide) (.k 0 rfl (by decide) (by decide) (.k 1 rfl (by decide) (by decide) (.k 2 rfl (by decide) (by decide) (.c 3 rfl (by decide) rfl .e)))) (fun ls22 hl22 => ?_)
      refine lv_aload_n hx hb d_M_delete_45 rfl (lv_at hl22 0 rfl) ?_
      refine lv_iconst (v := (4 : Int32)) hx hb d_M_delete_46 (by decide) ?_
      refine r_putI (f := 56) S hZ hG hS rfl h.1 (hts _ tw_785) (fun _ h9 => h9) (Or.inl rfl) d_M_delete_47 (fun g23 H locs e9 hG hS => ?_)
      replace h := h.2 g23 e9
      refine lv_iconst (v := (0 : Int32)) hx hb d_M_delete_50 (by decide) ?_
      exact r_iret (v := (0 : Int32)) S hr hlk hG hS h hk.1 hk.2 d_M_delete_51
    · refine r_catch (i := 3) S hZ (by decide) [] ⟨5, 12, 13, 27⟩ [⟨5, 12, 23, 41⟩, ⟨5, 12, 33, 110⟩, ⟨5, 12, 43, 44⟩] htb (fun y hy => nomatch hy) (by decide) (by decide) tw_885 hq1 hq2 hq3 ?_
      refine q_astore (o := (some q9)) (lv' := [(0, .ref this), (1, .int p0), (2, .int p1), (3, .int p2)]) hx hb d_M_delete_13 hl (by decide) (.k 0 rfl (by decide) (by decide) (.k 1 rfl (by decide) (by decide) (.k 2 rfl (by decide) (by decide) (.c 3 rfl (by decide) rfl .e)))) (fun ls25 hl25 => ?_)
      refine lv_aload_n hx hb d_M_delete_15 rfl (lv_at hl25 0 rfl) ?_
      refine lv_iconst (v := (1 : Int32)) hx hb d_M_delete_16 (by decide) ?_
      refine r_putI (f := 56) S hZ hG hS rfl h.1 (hts _ tw_785) (fun _ h9 => h9) (Or.inl rfl) d_M_delete_17 (fun g26 H locs e9 hG hS => ?_)
      replace h := h.2 g26 e9
      refine lv_goto (tgt := 50) hx hb d_M_delete_20 (by decide) ?_
      refine lv_iconst (v := (0 : Int32)) hx hb d_M_delete_50 (by decide) ?_
      exact r_iret (v := (0 : Int32)) S hr hlk hG hS h hk.1 hk.2 d_M_delete_51
    · refine r_catch (i := 4) S hZ (by decide) [⟨5, 12, 13, 27⟩, ⟨5, 12, 23, 41⟩] ⟨5, 12, 33, 110⟩ [⟨5, 12, 43, 44⟩] htb (List.forall_mem_cons.mpr ⟨⟨by decide, 3, by decide, by decide, tw_885⟩, (List.forall_mem_cons.mpr ⟨⟨by decide, 1, by decide, by decide, tw_808⟩, (fun y hy => nomatch hy)⟩)⟩) (by decide) (by decide) tw_886 hq1 hq2 hq3 ?_
      refine q_astore (o := (some q9)) (lv' := [(0, .ref this), (1, .int p0), (2, .int p1), (3, .int p2)]) hx hb d_M_delete_33 hl (by decide) (.k 0 rfl (by decide) (by decide) (.k 1 rfl (by decide) (by decide) (.k 2 rfl (by decide) (by decide) (.c 3 rfl (by decide) rfl .e)))) (fun ls28 hl28 => ?_)
      refine lv_aload_n hx hb d_M_delete_35 rfl (lv_at hl28 0 rfl) ?_
      refine lv_iconst (v := (3 : Int32)) hx hb d_M_delete_36 (by decide) ?_
      refine r_putI (f := 56) S hZ hG hS rfl h.1 (hts _ tw_785) (fun _ h9 => h9) (Or.inl rfl) d_M_delete_37 (fun g29 H locs e9 hG hS => ?_)
      replace h := h.2 g29 e9
      refine lv_goto (tgt := 50) hx hb d_M_delete_40 (by decide) ?_
      refine lv_iconst (v := (0 : Int32)) hx hb d_M_delete_50 (by decide) ?_
      exact r_iret (v := (0 : Int32)) S hr hlk hG hS h hk.1 hk.2 d_M_delete_51
  · have hk := And.intro k1 k2
    replace h := h30
    exact r_iret (v := x15) S hr hlk hG hS h hk.1 hk.2 d_M_delete_12
def w_M_length0 (z mi mc ms : Nat) (post : Int32 → Sg → Prop) (g : Sg) (this : Nat) : Prop := (hasR g this 51 ∧ ∀ o11 : Option Nat, o11 = fR g 51 this → ∃ a12, o11 = some a12 ∧ (isK g a12 [5] ∧ ∃ c13 c14 : Nat, 0 + c13 ≤ mc ∧ 0 + c14 ≤ ms ∧ w_G_length z mi c13 c14 (fun (x16 : Int32) (g15 : Sg) => post x16 g15) g a12))
set_option maxHeartbeats 4000000 in
set_option maxRecDepth 100000 in
theorem s_M_length0 {l : Launch} {D : va_G} {cA : Nat → ClassId} {sz z mi mc ms : Nat} {g : Sg} {post : Int32 → Sg → Prop} {this : Nat} (h : w_M_length0 z mi mc ms post g this) : Met l y_M_length0 (Cond.code y_M_length0 b_M_length0 1 (some FieldType.int) :: TBL) ({ frames := 2, cells := mc, slots := ms, locals := 43 } : Room) (Pg D cA sz z mi [.ref this] g) (Qg D cA sz (pI post)) mc ms (oA sz) := by
  refine m_code (lv := [(0, .ref this)]) (by decide +kernel) (Nat.le_of_ble_eq_true rfl) rfl ?_
  intro p e s m below meth c ls S hr hlk hnm hZ hG hS hl
  obtain ⟨hx, hb, hml, hown, hts⟩ := id S
  have hk : 0 ≤ mc ∧ 0 ≤ ms := ⟨Nat.zero_le _, Nat.zero_le _⟩
  refine lv_aload_n hx hb d_M_length0_0 rfl (lv_at hl 0 rfl) ?_
  refine r_getR (f := 51) S hZ hG rfl h.1 (hts _ tw_780) (fun _ h9 => h9) d_M_length0_1 (fun o11 e9 => ?_)
  replace h := h.2 o11 e9
  obtain ⟨a12, e9, h⟩ := h
  subst e9
  obtain ⟨h9, h⟩ := h
  obtain ⟨c13, c14, k1, k2, h⟩ := h
  obtain ⟨n9, h9⟩ := isK1 h9
  refine q_callI (run_V (As := []) (rest := []) S hZ hG hS (s_G_length h) tw_957 tw_954 tw_955 tw_956 tw_9 nk_G_length h9 (by decide) rfl ⟨Nat.le_of_ble_eq_true rfl, Nat.le_of_ble_eq_true rfl⟩ rfl hl.1 rfl (by decide) d_M_length0_4 ⟨k1, k2⟩) hS (fun x16 g15 H locs h17 hG hS => ?_)
  have hk := And.intro k1 k2
  replace h := h17
  exact r_iret (v := x16) S hr hlk hG hS h hk.1 hk.2 d_M_length0_7
def w_M_length (z mi mc ms : Nat) (post : Int32 → Sg → Prop) (g : Sg) (this : Nat) : Prop := (hasI g this 56 ∧ ∀ g11 : Sg, g11 = wI g 56 this (0 : Int32) → (isK g11 this [6] ∧ ∃ c12 c13 : Nat, 0 + c12 ≤ mc ∧ 0 + c13 ≤ ms ∧ w_M_length0 z mi c12 c13 (fun (x15 : Int32) (g14 : Sg) => post x15 g14) g11 this))
set_option maxHeartbeats 4000000 in
set_option maxRecDepth 100000 in
theorem s_M_length {l : Launch} {D : va_G} {cA : Nat → ClassId} {sz z mi mc ms : Nat} {g : Sg} {post : Int32 → Sg → Prop} {this : Nat} (h : w_M_length z mi mc ms post g this) : Met l y_M_length (Cond.code y_M_length b_M_length 1 (some FieldType.int) :: TBL) ({ frames := 3, cells := mc, slots := ms, locals := 63 } : Room) (Pg D cA sz z mi [.ref this] g) (Qg D cA sz (pI post)) mc ms (oA sz) := by
  refine m_code (lv := [(0, .ref this)]) (by decide +kernel) (Nat.le_of_ble_eq_true rfl) rfl ?_
  intro p e s m below meth c ls S hr hlk hnm hZ hG hS hl
  obtain ⟨hx, hb, hml, hown, hts⟩ := id S
  have hk : 0 ≤ mc ∧ 0 ≤ ms := ⟨Nat.zero_le _, Nat.zero_le _⟩
  refine lv_aload_n hx hb d_M_length_0 rfl (lv_at hl 0 rfl) ?_
  refine lv_iconst (v := (0 : Int32)) hx hb d_M_length_1 (by decide) ?_
  refine r_putI (f := 56) S hZ hG hS rfl h.1 (hts _ tw_785) (fun _ h9 => h9) (Or.inl rfl) d_M_length_2 (fun g11 H locs e9 hG hS => ?_)
  replace h := h.2 g11 e9
  refine lv_aload_n hx hb d_M_length_5 rfl (lv_at hl 0 rfl) ?_
  obtain ⟨h9, h⟩ := h
  obtain ⟨c12, c13, k1, k2, h⟩ := h
  obtain ⟨n9, h9⟩ := isK1 h9
  refine q_callI (run_V (As := []) (rest := []) S hZ hG hS (s_M_length0 h) tw_981 tw_978 tw_980 tp_49 tw_8 nk_M_length0 h9 (by decide) rfl ⟨Nat.le_of_ble_eq_true rfl, Nat.le_of_ble_eq_true rfl⟩ rfl hl.1 rfl (by decide) d_M_length_6 ⟨k1, k2⟩) hS (fun x15 g14 H locs h16 hG hS => ?_)
  have hk := And.intro k1 k2
  replace h := h16
  exact r_iret (v := x15) S hr hlk hG hS h hk.1 hk.2 d_M_length_9
def w_G_shownAt_21 (z mi mc ms : Nat) (post : Int32 → Sg → Prop) (k_4 : Nat → Nat → Sg → Nat → Int32 → Int32 → Prop) : Nat → Nat → Sg → Nat → Int32 → Int32 → Prop := fun kc ks g this v2 v3 => (hasR g this 50 ∧ ∀ o21 : Option Nat, o21 = fR g 50 this → ∃ a22, o21 = some a22 ∧ (∃ j23 : Nat, inA g a22 100 v3 j23 ∧ ∀ x24 : Int32, x24 = aI g a22 j23 → (isK g this [5] ∧ ∃ c25 c26 : Nat, kc + c25 ≤ mc ∧ ks + c26 ≤ ms ∧ w_G_isShown z mi c25 c26 (fun (x28 : Int32) (g27 : Sg) => (x28 = 0 → k_4 (kc + c25) (ks + c26) g27 this v2 (v3 + (1 : Int32))) ∧ (¬ x28 = 0 → k_4 (kc + c25) (ks + c26) g27 this (v2 + (-1 : Int32)) (v3 + (1 : Int32)))) g this x24)))
set_option maxHeartbeats 4000000 in
set_option maxRecDepth 100000 in
theorem s_G_shownAt_21 {p : Program} {l : Launch} {e : Env} {s : State} {m : MethodId} {args : Array Value} {below : List Frame} {meth : Method} {c : Code} {D : va_G} {cA : Nat → ClassId} {sz z mi mc ms : Nat} {post : Int32 → Sg → Prop}  {k_4 : Nat → Nat → Sg → Nat → Int32 → Int32 → Prop} (S : CallFix p m c b_G_shownAt 4 s args TBL "WeaveCoreModel$Graph") (hZ : Ws D cA sz z mi s) (hr : meth.sig.returnType = (some FieldType.int)) (hlk : meth.locks = false) (hk_4 : ∀ (kc ks : Nat) (g : Sg) (this : Nat) (v2 : Int32) (v3 : Int32) (H : Heap) (locs : List Loc) (ls : Array Slot), kc ≤ mc ∧ ks ≤ ms → k_4 kc ks g this v2 v3 → WP D cA sz g H → va_S (oA sz) s.heap H locs → lv_has ls 4 [(0, .ref this), (2, .int v2), (3, .int v3)] → W p l e ({ frames := 1, cells := mc, slots := ms, locals := 21 } : Room) s m args below meth c H locs kc ks (MQ below (Qg D cA sz (pI post)) args s mc ms (oA sz)) (F0 m 4 ls [])) :
    ∀ (kc ks : Nat) (g : Sg) (this : Nat) (v2 : Int32) (v3 : Int32) (H : Heap) (locs : List Loc) (ls : Array Slot), kc ≤ mc ∧ ks ≤ ms → w_G_shownAt_21 z mi mc ms post k_4 kc ks g this v2 v3 → WP D cA sz g H → va_S (oA sz) s.heap H locs → lv_has ls 4 [(0, .ref this), (2, .int v2), (3, .int v3)] → W p l e ({ frames := 1, cells := mc, slots := ms, locals := 21 } : Room) s m args below meth c H locs kc ks (MQ below (Qg D cA sz (pI post)) args s mc ms (oA sz)) (F0 m 21 ls []) := by
  obtain ⟨hx, hb, hml, hown, hts⟩ := id S
  intro kc ks g this v2 v3 H locs ls hk h hG hS hl
  refine lv_aload_n hx hb d_G_shownAt_21 rfl (lv_at hl 0 rfl) ?_
  refine lv_aload_n hx hb d_G_shownAt_22 rfl (lv_at hl 0 rfl) ?_
  refine r_getR (f := 50) S hZ hG rfl h.1 (hts _ tw_731) (fun _ h9 => h9) d_G_shownAt_23 (fun o21 e9 => ?_)
  replace h := h.2 o21 e9
  refine lv_iload_n hx hb d_G_shownAt_26 rfl (lv_at hl 2 rfl) ?_
  obtain ⟨a22, e9, h⟩ := h
  subst e9
  obtain ⟨j23, h9, h⟩ := h
  refine r_iald S hZ hG h9 d_G_shownAt_27 (fun x24 e9 => ?_)
  replace h := h x24 e9
  obtain ⟨h9, h⟩ := h
  obtain ⟨c25, c26, k1, k2, h⟩ := h
  obtain ⟨n9, h9⟩ := isK1 h9
  refine q_callI (run_V (As := [.int x24]) (rest := []) S hZ hG hS (s_G_isShown h) tw_961 tw_958 tw_959 tw_960 tw_9 nk_G_isShown h9 (by decide) rfl ⟨Nat.le_of_ble_eq_true rfl, Nat.le_of_ble_eq_true rfl⟩ rfl hl.1 rfl (by decide) d_G_shownAt_28 ⟨k1, k2⟩) hS (fun x28 g27 H locs h32 hG hS => ?_)
  have hk := And.intro k1 k2
  replace h := h32
  refine lv_if_eq (tgt := 37) hx hb d_G_shownAt_31 (by decide) (fun c9 => ?_) (fun c9 => ?_)
  · replace h := h.1 c9
    refine q_iinc (k := 2) (v := v3 + (1 : Int32)) (lv' := [(3, .int (v3 + (1 : Int32))), (0, .ref this), (2, .int v2)]) hx hb d_G_shownAt_37 hl rfl rfl (by decide) (.n (.k 0 rfl (by decide) (by decide) (.c 1 rfl (by decide) rfl .e))) (fun ls29 hl29 => ?_)
    refine lv_goto (tgt := 4) hx hb d_G_shownAt_40 (by decide) ?_
    exact hk_4 _ _ _ _ _ _ _ _ _ hk h hG hS (lv_sub hl29 [1, 2, 0] rfl)
  · replace h := h.2 c9
    refine q_iinc (k := 1) (v := v2 + (-1 : Int32)) (lv' := [(2, .int (v2 + (-1 : Int32))), (0, .ref this), (3, .int v3)]) hx hb d_G_shownAt_34 hl rfl rfl (by decide) (.n (.k 0 rfl (by decide) (by decide) (.k 2 rfl (by decide) (by decide) .e))) (fun ls30 hl30 => ?_)
    refine q_iinc (k := 2) (v := v3 + (1 : Int32)) (lv' := [(3, .int (v3 + (1 : Int32))), (2, .int (v2 + (-1 : Int32))), (0, .ref this)]) hx hb d_G_shownAt_37 hl30 rfl rfl (by decide) (.n (.c 0 rfl (by decide) rfl (.k 1 rfl (by decide) (by decide) .e))) (fun ls31 hl31 => ?_)
    refine lv_goto (tgt := 4) hx hb d_G_shownAt_40 (by decide) ?_
    exact hk_4 _ _ _ _ _ _ _ _ _ hk h hG hS (lv_sub hl31 [2, 1, 0] rfl)
def w_G_shownAt_4 (z mi mc ms : Nat) (post : Int32 → Sg → Prop) : Nat → Nat → Nat → Sg → Nat → Int32 → Int32 → Prop
  | 0 => fun _ _ _ _ _ _ => False
  | n + 1 => fun kc ks g this v2 v3 => (hasR g this 50 ∧ ∀ o13 : Option Nat, o13 = fR g 50 this → ∃ a14, o13 = some a14 ∧ (∃ j15 : Nat, inA g a14 100 v3 j15 ∧ ∀ x16 : Int32, x16 = aI g a14 j15 → (isK g this [5] ∧ ∃ c17 c18 : Nat, kc + c17 ≤ mc ∧ ks + c18 ≤ ms ∧ w_G_isShown z mi c17 c18 (fun (x20 : Int32) (g19 : Sg) => (x20 = 0 → w_G_shownAt_21 z mi mc ms post (w_G_shownAt_4 z mi mc ms post n) (kc + c17) (ks + c18) g19 this v2 v3) ∧ (¬ x20 = 0 → (v2 ≤ 0 → (hasR g19 this 50 ∧ ∀ o33 : Option Nat, o33 = fR g19 50 this → ∃ a34, o33 = some a34 ∧ (∃ j35 : Nat, inA g19 a34 100 v3 j35 ∧ ∀ x36 : Int32, x36 = aI g19 a34 j35 → post x36 g19))) ∧ (¬ v2 ≤ 0 → w_G_shownAt_21 z mi mc ms post (w_G_shownAt_4 z mi mc ms post n) (kc + c17) (ks + c18) g19 this v2 v3))) g this x16)))
set_option maxHeartbeats 4000000 in
set_option maxRecDepth 100000 in
theorem s_G_shownAt_4 {p : Program} {l : Launch} {e : Env} {s : State} {m : MethodId} {args : Array Value} {below : List Frame} {meth : Method} {c : Code} {D : va_G} {cA : Nat → ClassId} {sz z mi mc ms : Nat} {post : Int32 → Sg → Prop} (S : CallFix p m c b_G_shownAt 4 s args TBL "WeaveCoreModel$Graph") (hZ : Ws D cA sz z mi s) (hr : meth.sig.returnType = (some FieldType.int)) (hlk : meth.locks = false) :
    ∀ n : Nat, ∀ (kc ks : Nat) (g : Sg) (this : Nat) (v2 : Int32) (v3 : Int32) (H : Heap) (locs : List Loc) (ls : Array Slot), kc ≤ mc ∧ ks ≤ ms → w_G_shownAt_4 z mi mc ms post n kc ks g this v2 v3 → WP D cA sz g H → va_S (oA sz) s.heap H locs → lv_has ls 4 [(0, .ref this), (2, .int v2), (3, .int v3)] → W p l e ({ frames := 1, cells := mc, slots := ms, locals := 21 } : Room) s m args below meth c H locs kc ks (MQ below (Qg D cA sz (pI post)) args s mc ms (oA sz)) (F0 m 4 ls []) := by
  obtain ⟨hx, hb, hml, hown, hts⟩ := id S
  intro n
  induction n with
  | zero =>
    intro kc ks g this v2 v3 H locs ls hk h hG hS hl
    exact h.elim
  | succ n ih =>
    intro kc ks g this v2 v3 H locs ls hk h hG hS hl
    refine lv_aload_n hx hb d_G_shownAt_4 rfl (lv_at hl 0 rfl) ?_
    refine lv_aload_n hx hb d_G_shownAt_5 rfl (lv_at hl 0 rfl) ?_
    refine r_getR (f := 50) S hZ hG rfl h.1 (hts _ tw_731) (fun _ h9 => h9) d_G_shownAt_6 (fun o13 e9 => ?_)
    replace h := h.2 o13 e9
    refine lv_iload_n hx hb d_G_shownAt_9 rfl (lv_at hl 2 rfl) ?_
    obtain ⟨a14, e9, h⟩ := h
    subst e9
    obtain ⟨j15, h9, h⟩ := h
    refine r_iald S hZ hG h9 d_G_shownAt_10 (fun x16 e9 => ?_)
    replace h := h x16 e9
    obtain ⟨h9, h⟩ := h
    obtain ⟨c17, c18, k1, k2, h⟩ := h
    obtain ⟨n9, h9⟩ := isK1 h9
    refine q_callI (run_V (As := [.int x16]) (rest := []) S hZ hG hS (s_G_isShown h) tw_961 tw_958 tw_959 tw_960 tw_9 nk_G_isShown h9 (by decide) rfl ⟨Nat.le_of_ble_eq_true rfl, Nat.le_of_ble_eq_true rfl⟩ rfl hl.1 rfl (by decide) d_G_shownAt_11 ⟨k1, k2⟩) hS (fun x20 g19 H locs h37 hG hS => ?_)
    have hk := And.intro k1 k2
    replace h := h37
    refine lv_if_eq (tgt := 21) hx hb d_G_shownAt_14 (by decide) (fun c9 => ?_) (fun c9 => ?_)
    · replace h := h.1 c9
      exact s_G_shownAt_21 S hZ hr hlk ih _ _ _ _ _ _ _ _ _ hk h hG hS (lv_sub hl [0, 1, 2] rfl)
    · replace h := h.2 c9
      refine lv_iload_n hx hb d_G_shownAt_17 rfl (lv_at hl 1 rfl) ?_
      refine lv_if_le (tgt := 43) hx hb d_G_shownAt_18 (by decide) (fun c9 => ?_) (fun c9 => ?_)
      · replace h := h.1 c9
        refine lv_aload_n hx hb d_G_shownAt_43 rfl (lv_at hl 0 rfl) ?_
        refine r_getR (f := 50) S hZ hG rfl h.1 (hts _ tw_731) (fun _ h9 => h9) d_G_shownAt_44 (fun o33 e9 => ?_)
        replace h := h.2 o33 e9
        refine lv_iload_n hx hb d_G_shownAt_47 rfl (lv_at hl 2 rfl) ?_
        obtain ⟨a34, e9, h⟩ := h
        subst e9
        obtain ⟨j35, h9, h⟩ := h
        refine r_iald S hZ hG h9 d_G_shownAt_48 (fun x36 e9 => ?_)
        replace h := h x36 e9
        exact r_iret (v := x36) S hr hlk hG hS h hk.1 hk.2 d_G_shownAt_49
      · replace h := h.2 c9
        exact s_G_shownAt_21 S hZ hr hlk ih _ _ _ _ _ _ _ _ _ hk h hG hS (lv_sub hl [0, 1, 2] rfl)
def w_G_shownAt (z mi mc ms : Nat) (post : Int32 → Sg → Prop) (g : Sg) (this : Nat) (p0 : Int32) : Prop := (∃ n38 : Nat, w_G_shownAt_4 z mi mc ms post n38 0 0 g this p0 (0 : Int32))
set_option maxHeartbeats 4000000 in
set_option maxRecDepth 100000 in
theorem s_G_shownAt {l : Launch} {D : va_G} {cA : Nat → ClassId} {sz z mi mc ms : Nat} {g : Sg} {post : Int32 → Sg → Prop} {this : Nat} {p0 : Int32} (h : w_G_shownAt z mi mc ms post g this p0) : Met l y_G_shownAt (Cond.code y_G_shownAt b_G_shownAt 4 (some FieldType.int) :: TBL) ({ frames := 1, cells := mc, slots := ms, locals := 21 } : Room) (Pg D cA sz z mi [.ref this, .int p0] g) (Qg D cA sz (pI post)) mc ms (oA sz) := by
  refine m_code (lv := [(0, .ref this), (1, .int p0)]) (by decide +kernel) (Nat.le_of_ble_eq_true rfl) rfl ?_
  intro p e s m below meth c ls S hr hlk hnm hZ hG hS hl
  obtain ⟨hx, hb, hml, hown, hts⟩ := id S
  have hk : 0 ≤ mc ∧ 0 ≤ ms := ⟨Nat.zero_le _, Nat.zero_le _⟩
  refine lv_iload_n hx hb d_G_shownAt_0 rfl (lv_at hl 1 rfl) ?_
  refine q_istore_n (lv' := [(2, .int p0), (0, .ref this), (1, .int p0)]) hx hb d_G_shownAt_1 rfl hl (by decide) (.n (.k 0 rfl (by decide) (by decide) (.c 1 rfl (by decide) rfl .e))) (fun ls11 hl11 => ?_)
  refine lv_iconst (v := (0 : Int32)) hx hb d_G_shownAt_2 (by decide) ?_
  refine q_istore_n (lv' := [(3, .int ((0 : Int32))), (2, .int p0), (0, .ref this), (1, .int p0)]) hx hb d_G_shownAt_3 rfl hl11 (by decide) (.n (.c 0 rfl (by decide) rfl (.k 1 rfl (by decide) (by decide) (.k 2 rfl (by decide) (by decide) .e)))) (fun ls12 hl12 => ?_)
  obtain ⟨n38, h⟩ := h
  exact s_G_shownAt_4 S hZ hr hlk n38 _ _ _ _ _ _ _ _ _ hk h hG hS (lv_sub hl12 [2, 1, 0] rfl)
def w_M_shown (z mi mc ms : Nat) (post : Int32 → Sg → Prop) (px : Nat → Sg → Prop) (g : Sg) (this : Nat) (p0 : Int32) : Prop := (hasR g this 51 ∧ ∀ o11 : Option Nat, o11 = fR g 51 this → ∃ a12, o11 = some a12 ∧ (isK g a12 [5] ∧ ∃ c13 c14 : Nat, 0 + c13 ≤ mc ∧ 0 + c14 ≤ ms ∧ w_G_length z mi c13 c14 (fun (x16 : Int32) (g15 : Sg) => (∃ c17 c18 : Nat, (0 + c13) + c17 ≤ mc ∧ (0 + c14) + c18 ≤ ms ∧ w_M_in z mi c17 c18 (fun (x20 : Int32) (g19 : Sg) => (¬ x20 = 0 → (hasR g19 this 51 ∧ ∀ o21 : Option Nat, o21 = fR g19 51 this → ∃ a22, o21 = some a22 ∧ (isK g19 a22 [5] ∧ ∃ c23 c24 : Nat, ((0 + c13) + c17) + c23 ≤ mc ∧ ((0 + c14) + c18) + c24 ≤ ms ∧ w_G_shownAt z mi c23 c24 (fun (x26 : Int32) (g25 : Sg) => post x26 g25) g19 a22 p0))) ∧ (x20 = 0 → ((0 + c13) + c17) + 1 ≤ mc ∧ ((0 + c14) + c18) + 6 ≤ ms ∧ px 4 g19)) g15 p0 (0 : Int32) (x16 - (1 : Int32)))) g a12))
set_option maxHeartbeats 4000000 in
set_option maxRecDepth 100000 in
theorem s_M_shown {l : Launch} {D : va_G} {cA : Nat → ClassId} {sz z mi mc ms : Nat} {g : Sg} {post : Int32 → Sg → Prop} {px : Nat → Sg → Prop} {this : Nat} {p0 : Int32} (hst : l.stackTraces = false) (h : w_M_shown z mi mc ms post px g this p0) : vx_Met l y_M_shown (Cond.code y_M_shown b_M_shown 2 (some FieldType.int) :: TBL) ({ frames := 6, cells := mc, slots := ms, locals := 90 } : Room) (Pg D cA sz z mi [.ref this, .int p0] g) (Qg D cA sz (pI post)) (Xg D cA sz px) mc ms (oA sz) := by
  refine m_codeX (lv := [(0, .ref this), (1, .int p0)]) (by decide +kernel) (Nat.le_of_ble_eq_true rfl) rfl ?_
  intro p e s m below meth c ls hxt S hr hlk hnm hZ hG hS hl
  obtain ⟨hx, hb, hml, hown, hts⟩ := id S
  have hk : 0 ≤ mc ∧ 0 ≤ ms := ⟨Nat.zero_le _, Nat.zero_le _⟩
  refine lv_iload_n hx hb d_M_shown_0 rfl (lv_at hl 1 rfl) ?_
  refine lv_iconst (v := (0 : Int32)) hx hb d_M_shown_1 (by decide) ?_
  refine lv_aload_n hx hb d_M_shown_2 rfl (lv_at hl 0 rfl) ?_
  refine r_getR (f := 51) S hZ hG rfl h.1 (hts _ tw_780) (fun _ h9 => h9) d_M_shown_3 (fun o11 e9 => ?_)
  replace h := h.2 o11 e9
  obtain ⟨a12, e9, h⟩ := h
  subst e9
  obtain ⟨h9, h⟩ := h
  obtain ⟨c13, c14, k1, k2, h⟩ := h
  obtain ⟨n9, h9⟩ := isK1 h9
  refine q_callI (run_V (As := []) (rest := [.int ((0 : Int32)), .int p0]) S hZ hG hS (s_G_length h) tw_957 tw_954 tw_955 tw_956 tw_9 nk_G_length h9 (by decide) rfl ⟨Nat.le_of_ble_eq_true rfl, Nat.le_of_ble_eq_true rfl⟩ rfl hl.1 rfl (Nat.le_of_ble_eq_true rfl) d_M_shown_6 ⟨k1, k2⟩) hS (fun x16 g15 H locs h29 hG hS => ?_)
  have hk := And.intro k1 k2
  replace h := h29
  refine lv_iconst (v := (1 : Int32)) hx hb d_M_shown_9 (by decide) ?_
  refine lv_isub hx hb d_M_shown_10 ?_
  obtain ⟨c17, c18, k1, k2, h⟩ := h
  refine q_callI (run_S (As := [.int p0, .int ((0 : Int32)), .int (x16 - (1 : Int32))]) (rest := []) S hZ hG hS (s_M_in h) tw_893 tw_891 tw_892 tw_8 nk_M_in ⟨Nat.le_of_ble_eq_true rfl, Nat.le_of_ble_eq_true rfl⟩ rfl hl.1 rfl (by decide) d_M_shown_11 ⟨k1, k2⟩) hS (fun x20 g19 H locs h28 hG hS => ?_)
  have hk := And.intro k1 k2
  replace h := h28
  refine lv_if_ne (tgt := 25) hx hb d_M_shown_14 (by decide) (fun c9 => ?_) (fun c9 => ?_)
  · replace h := h.1 c9
    refine lv_aload_n hx hb d_M_shown_25 rfl (lv_at hl 0 rfl) ?_
    refine r_getR (f := 51) S hZ hG rfl h.1 (hts _ tw_780) (fun _ h9 => h9) d_M_shown_26 (fun o21 e9 => ?_)
    replace h := h.2 o21 e9
    refine lv_iload_n hx hb d_M_shown_29 rfl (lv_at hl 1 rfl) ?_
    obtain ⟨a22, e9, h⟩ := h
    subst e9
    obtain ⟨h9, h⟩ := h
    obtain ⟨c23, c24, k1, k2, h⟩ := h
    obtain ⟨n9, h9⟩ := isK1 h9
    refine q_callI (run_V (As := [.int p0]) (rest := []) S hZ hG hS (s_G_shownAt h) tw_997 tw_994 tw_995 tw_996 tw_9 nk_G_shownAt h9 (by decide) rfl ⟨Nat.le_of_ble_eq_true rfl, Nat.le_of_ble_eq_true rfl⟩ rfl hl.1 rfl (by decide) d_M_shown_30 ⟨k1, k2⟩) hS (fun x26 g25 H locs h27 hG hS => ?_)
    have hk := And.intro k1 k2
    replace h := h27
    exact vx_ret (r_iret (v := x26) S hr hlk hG hS h hk.1 hk.2 d_M_shown_33)
  · replace h := h.2 c9
    exact r_throw (i := 4) S hst hZ hG hS (by decide) tw_886 tw_21 xa_M_110_112 xb_M_110_112 xo_M_110_112 hl.1 d_M_shown_17 d_M_shown_20 d_M_shown_21 d_M_shown_24 (fun x hx => (hxt x hx).elim) (Nat.le_of_ble_eq_true rfl) (Nat.le_of_ble_eq_true rfl) rfl rfl hlk h.2.2 h.1 h.2.1
def w_M_at0 (z mi mc ms : Nat) (post : Int32 → Sg → Prop) (px : Nat → Sg → Prop) (g : Sg) (this : Nat) (p0 : Int32) : Prop := (hasR g this 51 ∧ ∀ o11 : Option Nat, o11 = fR g 51 this → ∃ a12, o11 = some a12 ∧ (hasR g a12 40 ∧ ∀ o13 : Option Nat, o13 = fR g 40 a12 → (isK g this [6] ∧ ∃ c14 c15 : Nat, 0 + c14 ≤ mc ∧ 0 + c15 ≤ ms ∧ w_M_shown z mi c14 c15 (fun (x17 : Int32) (g16 : Sg) => ∃ a18, o13 = some a18 ∧ (∃ j19 : Nat, inA g16 a18 100 x17 j19 ∧ ∀ x20 : Int32, x20 = aI g16 a18 j19 → post x20 g16)) px g this p0)))
set_option maxHeartbeats 4000000 in
set_option maxRecDepth 100000 in
theorem s_M_at0 {l : Launch} {D : va_G} {cA : Nat → ClassId} {sz z mi mc ms : Nat} {g : Sg} {post : Int32 → Sg → Prop} {px : Nat → Sg → Prop} {this : Nat} {p0 : Int32} (hst : l.stackTraces = false) (h : w_M_at0 z mi mc ms post px g this p0) : vx_Met l y_M_at0 (Cond.code y_M_at0 b_M_at0 2 (some FieldType.int) :: TBL) ({ frames := 7, cells := mc, slots := ms, locals := 111 } : Room) (Pg D cA sz z mi [.ref this, .int p0] g) (Qg D cA sz (pI post)) (Xg D cA sz px) mc ms (oA sz) := by
  refine m_codeX (lv := [(0, .ref this), (1, .int p0)]) (by decide +kernel) (Nat.le_of_ble_eq_true rfl) rfl ?_
  intro p e s m below meth c ls hxt S hr hlk hnm hZ hG hS hl
  obtain ⟨hx, hb, hml, hown, hts⟩ := id S
  have hk : 0 ≤ mc ∧ 0 ≤ ms := ⟨Nat.zero_le _, Nat.zero_le _⟩
  refine lv_aload_n hx hb d_M_at0_0 rfl (lv_at hl 0 rfl) ?_
  refine r_getR (f := 51) S hZ hG rfl h.1 (hts _ tw_780) (fun _ h9 => h9) d_M_at0_1 (fun o11 e9 => ?_)
  replace h := h.2 o11 e9
  obtain ⟨a12, e9, h⟩ := h
  subst e9
  refine r_getR (f := 40) S hZ hG rfl h.1 (hts _ tw_719) (fun _ h9 => h9) d_M_at0_4 (fun o13 e9 => ?_)
  replace h := h.2 o13 e9
  refine lv_aload_n hx hb d_M_at0_7 rfl (lv_at hl 0 rfl) ?_
  refine lv_iload_n hx hb d_M_at0_8 rfl (lv_at hl 1 rfl) ?_
  obtain ⟨h9, h⟩ := h
  obtain ⟨c14, c15, k1, k2, h⟩ := h
  obtain ⟨n9, h9⟩ := isK1 h9
  refine x_callI (xrun_V (As := [.int p0]) (rest := [va_rf o13]) S hZ hG hS (s_M_shown hst h) tw_993 tw_990 tw_992 tp_51 tw_8 nk_M_shown h9 (by decide) rfl ⟨Nat.le_of_ble_eq_true rfl, Nat.le_of_ble_eq_true rfl⟩ rfl hl.1 rfl (by simp [rf_cat, cat_i, cat_r, cat_l]) d_M_at0_9 ⟨k1, k2⟩) hS (fun i9 ce q9 g9 H locs hi h23 hG hS hq1 hq2 hq3 => ?_) (fun x17 g16 H locs h22 hG hS => ?_)
  · have hk := And.intro k1 k2
    replace h := h23
    exact r_out (fun x hx => (hxt x hx).elim) hlk hG hS hi h hq1 hq2 hq3 hk.1 hk.2
  · have hk := And.intro k1 k2
    replace h := h22
    obtain ⟨a18, e9, h⟩ := h
    subst e9
    obtain ⟨j19, h9, h⟩ := h
    refine r_iald S hZ hG h9 d_M_at0_12 (fun x20 e9 => ?_)
    replace h := h x20 e9
    exact vx_ret (r_iret (v := x20) S hr hlk hG hS h hk.1 hk.2 d_M_at0_13)
def w_M_at (z mi mc ms : Nat) (post : Int32 → Sg → Prop) (g : Sg) (this : Nat) (p0 : Int32) : Prop := (hasI g this 56 ∧ ∀ g11 : Sg, g11 = wI g 56 this (0 : Int32) → (isK g11 this [6] ∧ ∃ c12 c13 : Nat, 0 + c12 ≤ mc ∧ 0 + c13 ≤ ms ∧ w_M_at0 z mi c12 c13 (fun (x15 : Int32) (g14 : Sg) => post x15 g14) (fun (i16 : Nat) (g17 : Sg) => (i16 = 4 ∧ (hasI g17 this 56 ∧ ∀ g20 : Sg, g20 = wI g17 56 this (1 : Int32) → post (0 : Int32) g20))) g11 this p0))
set_option maxHeartbeats 4000000 in
set_option maxRecDepth 100000 in
theorem s_M_at {l : Launch} {D : va_G} {cA : Nat → ClassId} {sz z mi mc ms : Nat} {g : Sg} {post : Int32 → Sg → Prop} {this : Nat} {p0 : Int32} (hst : l.stackTraces = false) (h : w_M_at z mi mc ms post g this p0) : Met l y_M_at (Cond.codeWith y_M_at b_M_at 3 (some FieldType.int) [(5, 10, 11, 110)] :: TBL) ({ frames := 8, cells := mc, slots := ms, locals := 132 } : Room) (Pg D cA sz z mi [.ref this, .int p0] g) (Qg D cA sz (pI post)) mc ms (oA sz) := by
  refine m_codeW (lv := [(0, .ref this), (1, .int p0)]) (by decide +kernel) (Nat.le_of_ble_eq_true rfl) rfl ?_
  intro p e s m below meth c ls htb S hr hlk hnm hZ hG hS hl
  obtain ⟨hx, hb, hml, hown, hts⟩ := id S
  have hk : 0 ≤ mc ∧ 0 ≤ ms := ⟨Nat.zero_le _, Nat.zero_le _⟩
  refine lv_aload_n hx hb d_M_at_0 rfl (lv_at hl 0 rfl) ?_
  refine lv_iconst (v := (0 : Int32)) hx hb d_M_at_1 (by decide) ?_
  refine r_putI (f := 56) S hZ hG hS rfl h.1 (hts _ tw_785) (fun _ h9 => h9) (Or.inl rfl) d_M_at_2 (fun g11 H locs e9 hG hS => ?_)
  replace h := h.2 g11 e9
  refine lv_aload_n hx hb d_M_at_5 rfl (lv_at hl 0 rfl) ?_
  refine lv_iload_n hx hb d_M_at_6 rfl (lv_at hl 1 rfl) ?_
  obtain ⟨h9, h⟩ := h
  obtain ⟨c12, c13, k1, k2, h⟩ := h
  obtain ⟨n9, h9⟩ := isK1 h9
  refine x_callI (xrun_V (As := [.int p0]) (rest := []) S hZ hG hS (s_M_at0 hst h) tw_989 tw_986 tw_988 tp_50 tw_8 nk_M_at0 h9 (by decide) rfl ⟨Nat.le_of_ble_eq_true rfl, Nat.le_of_ble_eq_true rfl⟩ rfl hl.1 rfl (by decide) d_M_at_7 ⟨k1, k2⟩) hS (fun i9 ce q9 g17 H locs hi h22 hG hS hq1 hq2 hq3 => ?_) (fun x15 g14 H locs h21 hG hS => ?_)
  · have hk := And.intro k1 k2
    replace h := h22
    obtain ⟨rfl, h⟩ := h
    refine r_catch (i := 4) S hZ (by decide) [] ⟨5, 10, 11, 110⟩ [] htb (fun y hy => nomatch hy) (by decide) (by decide) tw_886 hq1 hq2 hq3 ?_
    refine q_astore_n (o := (some q9)) (lv' := [(0, .ref this), (1, .int p0)]) hx hb d_M_at_11 rfl hl (by decide) (.k 0 rfl (by decide) (by decide) (.c 1 rfl (by decide) rfl .e)) (fun ls19 hl19 => ?_)
    refine lv_aload_n hx hb d_M_at_12 rfl (lv_at hl19 0 rfl) ?_
    refine lv_iconst (v := (1 : Int32)) hx hb d_M_at_13 (by decide) ?_
    refine r_putI (f := 56) S hZ hG hS rfl h.1 (hts _ tw_785) (fun _ h9 => h9) (Or.inl rfl) d_M_at_14 (fun g20 H locs e9 hG hS => ?_)
    replace h := h.2 g20 e9
    refine lv_iconst (v := (0 : Int32)) hx hb d_M_at_17 (by decide) ?_
    exact r_iret (v := (0 : Int32)) S hr hlk hG hS h hk.1 hk.2 d_M_at_18
  · have hk := And.intro k1 k2
    replace h := h21
    exact r_iret (v := x15) S hr hlk hG hS h hk.1 hk.2 d_M_at_10
def w_M_who0 (z mi mc ms : Nat) (post : Int64 → Sg → Prop) (px : Nat → Sg → Prop) (g : Sg) (this : Nat) (p0 : Int32) : Prop := (isK g this [6] ∧ ∃ c11 c12 : Nat, 0 + c11 ≤ mc ∧ 0 + c12 ≤ ms ∧ w_M_shown z mi c11 c12 (fun (x14 : Int32) (g13 : Sg) => (hasR g13 this 51 ∧ ∀ o16 : Option Nat, o16 = fR g13 51 this → ∃ a17, o16 = some a17 ∧ (hasR g13 a17 32 ∧ ∀ o18 : Option Nat, o18 = fR g13 32 a17 → (hasR g13 this 51 ∧ ∀ o19 : Option Nat, o19 = fR g13 51 this → ∃ a20, o19 = some a20 ∧ (hasR g13 a20 35 ∧ ∀ o21 : Option Nat, o21 = fR g13 35 a20 → ∃ a22, o21 = some a22 ∧ (∃ j23 : Nat, inA g13 a22 100 x14 j23 ∧ ∀ x24 : Int32, x24 = aI g13 a22 j23 → ∃ a25, o18 = some a25 ∧ (∃ j26 : Nat, inA g13 a25 100 x24 j26 ∧ ∀ x27 : Int32, x27 = aI g13 a25 j26 → (hasR g13 this 51 ∧ ∀ o28 : Option Nat, o28 = fR g13 51 this → ∃ a29, o28 = some a29 ∧ (hasR g13 a29 36 ∧ ∀ o30 : Option Nat, o30 = fR g13 36 a29 → ∃ a31, o30 = some a31 ∧ (∃ j32 : Nat, inA g13 a31 100 x14 j32 ∧ ∀ x33 : Int32, x33 = aI g13 a31 j32 → post ((((4294967296 : Int64)) * (x27.toInt64)) + (x33.toInt64)) g13)))))))))) px g this p0)
set_option maxHeartbeats 4000000 in
set_option maxRecDepth 100000 in
theorem s_M_who0 {l : Launch} {D : va_G} {cA : Nat → ClassId} {sz z mi mc ms : Nat} {g : Sg} {post : Int64 → Sg → Prop} {px : Nat → Sg → Prop} {this : Nat} {p0 : Int32} (hst : l.stackTraces = false) (h : w_M_who0 z mi mc ms post px g this p0) : vx_Met l y_M_who0 (Cond.code y_M_who0 b_M_who0 3 (some FieldType.long) :: TBL) ({ frames := 7, cells := mc, slots := ms, locals := 111 } : Room) (Pg D cA sz z mi [.ref this, .int p0] g) (Qg D cA sz (pL post)) (Xg D cA sz px) mc ms (oA sz) := by
  refine m_codeX (lv := [(0, .ref this), (1, .int p0)]) (by decide +kernel) (Nat.le_of_ble_eq_true rfl) rfl ?_
  intro p e s m below meth c ls hxt S hr hlk hnm hZ hG hS hl
  obtain ⟨hx, hb, hml, hown, hts⟩ := id S
  have hk : 0 ≤ mc ∧ 0 ≤ ms := ⟨Nat.zero_le _, Nat.zero_le _⟩
  refine lv_aload_n hx hb d_M_who0_0 rfl (lv_at hl 0 rfl) ?_
  refine lv_iload_n hx hb d_M_who0_1 rfl (lv_at hl 1 rfl) ?_
  obtain ⟨h9, h⟩ := h
  obtain ⟨c11, c12, k1, k2, h⟩ := h
  obtain ⟨n9, h9⟩ := isK1 h9
  refine x_callI (xrun_V (As := [.int p0]) (rest := []) S hZ hG hS (s_M_shown hst h) tw_993 tw_990 tw_992 tp_51 tw_8 nk_M_shown h9 (by decide) rfl ⟨Nat.le_of_ble_eq_true rfl, Nat.le_of_ble_eq_true rfl⟩ rfl hl.1 rfl (by decide) d_M_who0_2 ⟨k1, k2⟩) hS (fun i9 ce q9 g9 H locs hi h36 hG hS hq1 hq2 hq3 => ?_) (fun x14 g13 H locs h35 hG hS => ?_)
  · have hk := And.intro k1 k2
    replace h := h36
    exact r_out (fun x hx => (hxt x hx).elim) hlk hG hS hi h hq1 hq2 hq3 hk.1 hk.2
  · have hk := And.intro k1 k2
    replace h := h35
    refine q_istore_n (lv' := [(2, .int x14), (0, .ref this), (1, .int p0)]) hx hb d_M_who0_5 rfl hl (by decide) (.n (.k 0 rfl (by decide) (by decide) (.c 1 rfl (by decide) rfl .e))) (fun ls15 hl15 => ?_)
    refine lv_ldc2 hx hb hown (hts _ tw_1006) d_M_who0_6 ?_
    refine lv_aload_n hx hb d_M_who0_9 rfl (lv_at hl15 1 rfl) ?_
    refine r_getR (f := 51) S hZ hG rfl h.1 (hts _ tw_780) (fun _ h9 => h9) d_M_who0_10 (fun o16 e9 => ?_)
    replace h := h.2 o16 e9
    obtain ⟨a17, e9, h⟩ := h
    subst e9
    refine r_getR (f := 32) S hZ hG rfl h.1 (hts _ tw_705) (fun _ h9 => h9) d_M_who0_13 (fun o18 e9 => ?_)
    replace h := h.2 o18 e9
    refine lv_aload_n hx hb d_M_who0_16 rfl (lv_at hl15 1 rfl) ?_
    refine r_getR (f := 51) S hZ hG rfl h.1 (hts _ tw_780) (fun _ h9 => h9) d_M_who0_17 (fun o19 e9 => ?_)
    replace h := h.2 o19 e9
    obtain ⟨a20, e9, h⟩ := h
    subst e9
    refine r_getR (f := 35) S hZ hG rfl h.1 (hts _ tw_710) (fun _ h9 => h9) d_M_who0_20 (fun o21 e9 => ?_)
    replace h := h.2 o21 e9
    refine lv_iload_n hx hb d_M_who0_23 rfl (lv_at hl15 0 rfl) ?_
    obtain ⟨a22, e9, h⟩ := h
    subst e9
    obtain ⟨j23, h9, h⟩ := h
    refine r_iald S hZ hG h9 d_M_who0_24 (fun x24 e9 => ?_)
    replace h := h x24 e9
    obtain ⟨a25, e9, h⟩ := h
    subst e9
    obtain ⟨j26, h9, h⟩ := h
    refine r_iald S hZ hG h9 d_M_who0_25 (fun x27 e9 => ?_)
    replace h := h x27 e9
    refine lv_i2l hx hb d_M_who0_26 rfl ?_
    refine lv_lmul hx hb d_M_who0_27 ?_
    refine lv_aload_n hx hb d_M_who0_28 rfl (lv_at hl15 1 rfl) ?_
    refine r_getR (f := 51) S hZ hG rfl h.1 (hts _ tw_780) (fun _ h9 => h9) d_M_who0_29 (fun o28 e9 => ?_)
    replace h := h.2 o28 e9
    obtain ⟨a29, e9, h⟩ := h
    subst e9
    refine r_getR (f := 36) S hZ hG rfl h.1 (hts _ tw_712) (fun _ h9 => h9) d_M_who0_32 (fun o30 e9 => ?_)
    replace h := h.2 o30 e9
    refine lv_iload_n hx hb d_M_who0_35 rfl (lv_at hl15 0 rfl) ?_
    obtain ⟨a31, e9, h⟩ := h
    subst e9
    obtain ⟨j32, h9, h⟩ := h
    refine r_iald S hZ hG h9 d_M_who0_36 (fun x33 e9 => ?_)
    replace h := h x33 e9
    refine lv_i2l hx hb d_M_who0_37 rfl ?_
    refine lv_ladd hx hb d_M_who0_38 ?_
    exact vx_ret (r_lret (v := ((((4294967296 : Int64)) * (x27.toInt64)) + (x33.toInt64))) S hr hlk hG hS h hk.1 hk.2 d_M_who0_39)
def w_M_who (z mi mc ms : Nat) (post : Int64 → Sg → Prop) (g : Sg) (this : Nat) (p0 : Int32) : Prop := (hasI g this 56 ∧ ∀ g11 : Sg, g11 = wI g 56 this (0 : Int32) → (isK g11 this [6] ∧ ∃ c12 c13 : Nat, 0 + c12 ≤ mc ∧ 0 + c13 ≤ ms ∧ w_M_who0 z mi c12 c13 (fun (x15 : Int64) (g14 : Sg) => post x15 g14) (fun (i16 : Nat) (g17 : Sg) => (i16 = 4 ∧ (hasI g17 this 56 ∧ ∀ g20 : Sg, g20 = wI g17 56 this (1 : Int32) → post ((0 : Int64)) g20))) g11 this p0))
set_option maxHeartbeats 4000000 in
set_option maxRecDepth 100000 in
theorem s_M_who {l : Launch} {D : va_G} {cA : Nat → ClassId} {sz z mi mc ms : Nat} {g : Sg} {post : Int64 → Sg → Prop} {this : Nat} {p0 : Int32} (hst : l.stackTraces = false) (h : w_M_who z mi mc ms post g this p0) : Met l y_M_who (Cond.codeWith y_M_who b_M_who 3 (some FieldType.long) [(5, 10, 11, 110)] :: TBL) ({ frames := 8, cells := mc, slots := ms, locals := 133 } : Room) (Pg D cA sz z mi [.ref this, .int p0] g) (Qg D cA sz (pL post)) mc ms (oA sz) := by
  refine m_codeW (lv := [(0, .ref this), (1, .int p0)]) (by decide +kernel) (Nat.le_of_ble_eq_true rfl) rfl ?_
  intro p e s m below meth c ls htb S hr hlk hnm hZ hG hS hl
  obtain ⟨hx, hb, hml, hown, hts⟩ := id S
  have hk : 0 ≤ mc ∧ 0 ≤ ms := ⟨Nat.zero_le _, Nat.zero_le _⟩
  refine lv_aload_n hx hb d_M_who_0 rfl (lv_at hl 0 rfl) ?_
  refine lv_iconst (v := (0 : Int32)) hx hb d_M_who_1 (by decide) ?_
  refine r_putI (f := 56) S hZ hG hS rfl h.1 (hts _ tw_785) (fun _ h9 => h9) (Or.inl rfl) d_M_who_2 (fun g11 H locs e9 hG hS => ?_)
  replace h := h.2 g11 e9
  refine lv_aload_n hx hb d_M_who_5 rfl (lv_at hl 0 rfl) ?_
  refine lv_iload_n hx hb d_M_who_6 rfl (lv_at hl 1 rfl) ?_
  obtain ⟨h9, h⟩ := h
  obtain ⟨c12, c13, k1, k2, h⟩ := h
  obtain ⟨n9, h9⟩ := isK1 h9
  refine x_callL (xrun_V (As := [.int p0]) (rest := []) S hZ hG hS (s_M_who0 hst h) tw_1005 tw_1002 tw_1004 tp_52 tw_8 nk_M_who0 h9 (by decide) rfl ⟨Nat.le_of_ble_eq_true rfl, Nat.le_of_ble_eq_true rfl⟩ rfl hl.1 rfl (by decide) d_M_who_7 ⟨k1, k2⟩) hS (fun i9 ce q9 g17 H locs hi h22 hG hS hq1 hq2 hq3 => ?_) (fun x15 g14 H locs h21 hG hS => ?_)
  · have hk := And.intro k1 k2
    replace h := h22
    obtain ⟨rfl, h⟩ := h
    refine r_catch (i := 4) S hZ (by decide) [] ⟨5, 10, 11, 110⟩ [] htb (fun y hy => nomatch hy) (by decide) (by decide) tw_886 hq1 hq2 hq3 ?_
    refine q_astore_n (o := (some q9)) (lv' := [(0, .ref this), (1, .int p0)]) hx hb d_M_who_11 rfl hl (by decide) (.k 0 rfl (by decide) (by decide) (.c 1 rfl (by decide) rfl .e)) (fun ls19 hl19 => ?_)
    refine lv_aload_n hx hb d_M_who_12 rfl (lv_at hl19 0 rfl) ?_
    refine lv_iconst (v := (1 : Int32)) hx hb d_M_who_13 (by decide) ?_
    refine r_putI (f := 56) S hZ hG hS rfl h.1 (hts _ tw_785) (fun _ h9 => h9) (Or.inl rfl) d_M_who_14 (fun g20 H locs e9 hG hS => ?_)
    replace h := h.2 g20 e9
    refine lv_lconst (v := 0) hx hb d_M_who_17 (by decide) ?_
    exact r_lret (v := ((0 : Int64))) S hr hlk hG hS h hk.1 hk.2 d_M_who_18
  · have hk := And.intro k1 k2
    replace h := h21
    exact r_lret (v := x15) S hr hlk hG hS h hk.1 hk.2 d_M_who_10
def w_M_spot0 (z mi mc ms : Nat) (post : Int32 → Sg → Prop) (px : Nat → Sg → Prop) (g : Sg) (this : Nat) (p0 : Int32) (p1 : Int32) : Prop := (hasR g this 51 ∧ ∀ o11 : Option Nat, o11 = fR g 51 this → ∃ a12, o11 = some a12 ∧ (isK g a12 [5] ∧ ∃ c13 c14 : Nat, 0 + c13 ≤ mc ∧ 0 + c14 ≤ ms ∧ w_G_find z mi c13 c14 (fun (x16 : Int32) (g15 : Sg) => (0 ≤ x16 → (hasR g15 this 51 ∧ ∀ o18 : Option Nat, o18 = fR g15 51 this → ∃ a19, o18 = some a19 ∧ (hasR g15 a19 38 ∧ ∀ o20 : Option Nat, o20 = fR g15 38 a19 → ∃ a21, o20 = some a21 ∧ (∃ j22 : Nat, inA g15 a21 102 x16 j22 ∧ ∀ x23 : Int32, x23 = aI g15 a21 j22 → (¬ x23 = 0 → (hasR g15 this 51 ∧ ∀ o24 : Option Nat, o24 = fR g15 51 this → ∃ a25, o24 = some a25 ∧ (isK g15 a25 [5] ∧ ∃ c26 c27 : Nat, (0 + c13) + c26 ≤ mc ∧ (0 + c14) + c27 ≤ ms ∧ w_G_inRow z mi c26 c27 (fun (x29 : Int32) (g28 : Sg) => post x29 g28) g15 a25 x16))) ∧ (x23 = 0 → (0 + c13) + 1 ≤ mc ∧ (0 + c14) + 6 ≤ ms ∧ px 1 g15))))) ∧ (¬ 0 ≤ x16 → (0 + c13) + 1 ≤ mc ∧ (0 + c14) + 6 ≤ ms ∧ px 0 g15)) g a12 p0 p1))
set_option maxHeartbeats 4000000 in
set_option maxRecDepth 100000 in
theorem s_M_spot0 {l : Launch} {D : va_G} {cA : Nat → ClassId} {sz z mi mc ms : Nat} {g : Sg} {post : Int32 → Sg → Prop} {px : Nat → Sg → Prop} {this : Nat} {p0 : Int32} {p1 : Int32} (hst : l.stackTraces = false) (h : w_M_spot0 z mi mc ms post px g this p0 p1) : vx_Met l y_M_spot0 (Cond.code y_M_spot0 b_M_spot0 4 (some FieldType.int) :: TBL) ({ frames := 6, cells := mc, slots := ms, locals := 90 } : Room) (Pg D cA sz z mi [.ref this, .int p0, .int p1] g) (Qg D cA sz (pI post)) (Xg D cA sz px) mc ms (oA sz) := by
  refine m_codeX (lv := [(0, .ref this), (1, .int p0), (2, .int p1)]) (by decide +kernel) (Nat.le_of_ble_eq_true rfl) rfl ?_
  intro p e s m below meth c ls hxt S hr hlk hnm hZ hG hS hl
  obtain ⟨hx, hb, hml, hown, hts⟩ := id S
  have hk : 0 ≤ mc ∧ 0 ≤ ms := ⟨Nat.zero_le _, Nat.zero_le _⟩
  refine lv_aload_n hx hb d_M_spot0_0 rfl (lv_at hl 0 rfl) ?_
  refine r_getR (f := 51) S hZ hG rfl h.1 (hts _ tw_780) (fun _ h9 => h9) d_M_spot0_1 (fun o11 e9 => ?_)
  replace h := h.2 o11 e9
  refine lv_iload_n hx hb d_M_spot0_4 rfl (lv_at hl 1 rfl) ?_
  refine lv_iload_n hx hb d_M_spot0_5 rfl (lv_at hl 2 rfl) ?_
  obtain ⟨a12, e9, h⟩ := h
  subst e9
  obtain ⟨h9, h⟩ := h
  obtain ⟨c13, c14, k1, k2, h⟩ := h
  obtain ⟨n9, h9⟩ := isK1 h9
  refine q_callI (run_V (As := [.int p0, .int p1]) (rest := []) S hZ hG hS (s_G_find h) tw_817 tw_814 tw_815 tw_816 tw_9 nk_G_find h9 (by decide) rfl ⟨Nat.le_of_ble_eq_true rfl, Nat.le_of_ble_eq_true rfl⟩ rfl hl.1 rfl (by decide) d_M_spot0_6 ⟨k1, k2⟩) hS (fun x16 g15 H locs h31 hG hS => ?_)
  have hk := And.intro k1 k2
  replace h := h31
  refine q_istore_n (lv' := [(3, .int x16), (0, .ref this), (1, .int p0), (2, .int p1)]) hx hb d_M_spot0_9 rfl hl (by decide) (.n (.k 0 rfl (by decide) (by decide) (.k 1 rfl (by decide) (by decide) (.c 2 rfl (by decide) rfl .e)))) (fun ls17 hl17 => ?_)
  refine lv_iload_n hx hb d_M_spot0_10 rfl (lv_at hl17 0 rfl) ?_
  refine lv_if_ge (tgt := 22) hx hb d_M_spot0_11 (by decide) (fun c9 => ?_) (fun c9 => ?_)
  · replace h := h.1 c9
    refine lv_aload_n hx hb d_M_spot0_22 rfl (lv_at hl17 1 rfl) ?_
    refine r_getR (f := 51) S hZ hG rfl h.1 (hts _ tw_780) (fun _ h9 => h9) d_M_spot0_23 (fun o18 e9 => ?_)
    replace h := h.2 o18 e9
    obtain ⟨a19, e9, h⟩ := h
    subst e9
    refine r_getR (f := 38) S hZ hG rfl h.1 (hts _ tw_716) (fun _ h9 => h9) d_M_spot0_26 (fun o20 e9 => ?_)
    replace h := h.2 o20 e9
    refine lv_iload_n hx hb d_M_spot0_29 rfl (lv_at hl17 0 rfl) ?_
    obtain ⟨a21, e9, h⟩ := h
    subst e9
    obtain ⟨j22, h9, h⟩ := h
    refine r_zald S hZ hG h9 d_M_spot0_30 (fun x23 e9 => ?_)
    replace h := h x23 e9
    refine lv_if_ne (tgt := 42) hx hb d_M_spot0_31 (by decide) (fun c9 => ?_) (fun c9 => ?_)
    · replace h := h.1 c9
      refine lv_aload_n hx hb d_M_spot0_42 rfl (lv_at hl17 1 rfl) ?_
      refine r_getR (f := 51) S hZ hG rfl h.1 (hts _ tw_780) (fun _ h9 => h9) d_M_spot0_43 (fun o24 e9 => ?_)
      replace h := h.2 o24 e9
      refine lv_iload_n hx hb d_M_spot0_46 rfl (lv_at hl17 0 rfl) ?_
      obtain ⟨a25, e9, h⟩ := h
      subst e9
      obtain ⟨h9, h⟩ := h
      obtain ⟨c26, c27, k1, k2, h⟩ := h
      obtain ⟨n9, h9⟩ := isK1 h9
      refine q_callI (run_VN (As := [.int x16]) (rest := []) S hZ hG hS (s_G_inRow h) tw_949 hZ.2.2.2.2.2.2.2.2.2.2.2.2.1 tw_948 tp_46 tw_9 nk_G_inRow h9 (by decide) rfl ⟨Nat.le_of_ble_eq_true rfl, Nat.le_of_ble_eq_true rfl⟩ rfl hl17.1 rfl (by decide) d_M_spot0_47 ⟨k1, k2⟩) hS (fun x29 g28 H locs h30 hG hS => ?_)
      have hk := And.intro k1 k2
      replace h := h30
      exact vx_ret (r_iret (v := x29) S hr hlk hG hS h hk.1 hk.2 d_M_spot0_50)
    · replace h := h.2 c9
      exact r_throw (i := 1) S hst hZ hG hS (by decide) tw_808 tw_16 xa_M_41_43 xb_M_41_43 xo_M_41_43 hl17.1 d_M_spot0_34 d_M_spot0_37 d_M_spot0_38 d_M_spot0_41 (fun x hx => (hxt x hx).elim) (Nat.le_of_ble_eq_true rfl) (Nat.le_of_ble_eq_true rfl) rfl rfl hlk h.2.2 h.1 h.2.1
  · replace h := h.2 c9
    exact r_throw (i := 0) S hst hZ hG hS (by decide) tw_807 tw_15 xa_M_34_36 xb_M_34_36 xo_M_34_36 hl17.1 d_M_spot0_14 d_M_spot0_17 d_M_spot0_18 d_M_spot0_21 (fun x hx => (hxt x hx).elim) (Nat.le_of_ble_eq_true rfl) (Nat.le_of_ble_eq_true rfl) rfl rfl hlk h.2.2 h.1 h.2.1
def w_M_spot (z mi mc ms : Nat) (post : Int32 → Sg → Prop) (g : Sg) (this : Nat) (p0 : Int32) (p1 : Int32) : Prop := (hasI g this 56 ∧ ∀ g11 : Sg, g11 = wI g 56 this (0 : Int32) → (isK g11 this [6] ∧ ∃ c12 c13 : Nat, 0 + c12 ≤ mc ∧ 0 + c13 ≤ ms ∧ w_M_spot0 z mi c12 c13 (fun (x15 : Int32) (g14 : Sg) => post x15 g14) (fun (i16 : Nat) (g17 : Sg) => (i16 = 0 ∧ (hasI g17 this 56 ∧ ∀ g20 : Sg, g20 = wI g17 56 this (1 : Int32) → post (0 : Int32) g20)) ∨ (i16 = 1 ∧ (hasI g17 this 56 ∧ ∀ g23 : Sg, g23 = wI g17 56 this (2 : Int32) → post (0 : Int32) g23))) g11 this p0 p1))
set_option maxHeartbeats 4000000 in
set_option maxRecDepth 100000 in
theorem s_M_spot {l : Launch} {D : va_G} {cA : Nat → ClassId} {sz z mi mc ms : Nat} {g : Sg} {post : Int32 → Sg → Prop} {this : Nat} {p0 : Int32} {p1 : Int32} (hst : l.stackTraces = false) (h : w_M_spot z mi mc ms post g this p0 p1) : Met l y_M_spot (Cond.codeWith y_M_spot b_M_spot 4 (some FieldType.int) [(5, 11, 12, 34), (5, 11, 21, 41)] :: TBL) ({ frames := 7, cells := mc, slots := ms, locals := 113 } : Room) (Pg D cA sz z mi [.ref this, .int p0, .int p1] g) (Qg D cA sz (pI post)) mc ms (oA sz) := by
  refine m_codeW (lv := [(0, .ref this), (1, .int p0), (2, .int p1)]) (by decide +kernel) (Nat.le_of_ble_eq_true rfl) rfl ?_
  intro p e s m below meth c ls htb S hr hlk hnm hZ hG hS hl
  obtain ⟨hx, hb, hml, hown, hts⟩ := id S
  have hk : 0 ≤ mc ∧ 0 ≤ ms := ⟨Nat.zero_le _, Nat.zero_le _⟩
  refine lv_aload_n hx hb d_M_spot_0 rfl (lv_at hl 0 rfl) ?_
  refine lv_iconst (v := (0 : Int32)) hx hb d_M_spot_1 (by decide) ?_
  refine r_putI (f := 56) S hZ hG hS rfl h.1 (hts _ tw_785) (fun _ h9 => h9) (Or.inl rfl) d_M_spot_2 (fun g11 H locs e9 hG hS => ?_)
  replace h := h.2 g11 e9
  refine lv_aload_n hx hb d_M_spot_5 rfl (lv_at hl 0 rfl) ?_
  refine lv_iload_n hx hb d_M_spot_6 rfl (lv_at hl 1 rfl) ?_
  refine lv_iload_n hx hb d_M_spot_7 rfl (lv_at hl 2 rfl) ?_
  obtain ⟨h9, h⟩ := h
  obtain ⟨c12, c13, k1, k2, h⟩ := h
  obtain ⟨n9, h9⟩ := isK1 h9
  refine x_callI (xrun_V (As := [.int p0, .int p1]) (rest := []) S hZ hG hS (s_M_spot0 hst h) tw_1014 tw_1011 tw_1013 tp_53 tw_8 nk_M_spot0 h9 (by decide) rfl ⟨Nat.le_of_ble_eq_true rfl, Nat.le_of_ble_eq_true rfl⟩ rfl hl.1 rfl (by decide) d_M_spot_8 ⟨k1, k2⟩) hS (fun i9 ce q9 g17 H locs hi h25 hG hS hq1 hq2 hq3 => ?_) (fun x15 g14 H locs h24 hG hS => ?_)
  · have hk := And.intro k1 k2
    replace h := h25
    rcases h with ⟨rfl, h⟩ | ⟨rfl, h⟩
    · refine r_catch (i := 0) S hZ (by decide) [] ⟨5, 11, 12, 34⟩ [⟨5, 11, 21, 41⟩] htb (fun y hy => nomatch hy) (by decide) (by decide) tw_807 hq1 hq2 hq3 ?_
      refine q_astore_n (o := (some q9)) (lv' := [(0, .ref this), (1, .int p0), (2, .int p1)]) hx hb d_M_spot_12 rfl hl (by decide) (.k 0 rfl (by decide) (by decide) (.k 1 rfl (by decide) (by decide) (.c 2 rfl (by decide) rfl .e))) (fun ls19 hl19 => ?_)
      refine lv_aload_n hx hb d_M_spot_13 rfl (lv_at hl19 0 rfl) ?_
      refine lv_iconst (v := (1 : Int32)) hx hb d_M_spot_14 (by decide) ?_
      refine r_putI (f := 56) S hZ hG hS rfl h.1 (hts _ tw_785) (fun _ h9 => h9) (Or.inl rfl) d_M_spot_15 (fun g20 H locs e9 hG hS => ?_)
      replace h := h.2 g20 e9
      refine lv_goto (tgt := 27) hx hb d_M_spot_18 (by decide) ?_
      refine lv_iconst (v := (0 : Int32)) hx hb d_M_spot_27 (by decide) ?_
      exact r_iret (v := (0 : Int32)) S hr hlk hG hS h hk.1 hk.2 d_M_spot_28
    · refine r_catch (i := 1) S hZ (by decide) [⟨5, 11, 12, 34⟩] ⟨5, 11, 21, 41⟩ [] htb (List.forall_mem_cons.mpr ⟨⟨by decide, 0, by decide, by decide, tw_807⟩, (fun y hy => nomatch hy)⟩) (by decide) (by decide) tw_808 hq1 hq2 hq3 ?_
      refine q_astore_n (o := (some q9)) (lv' := [(0, .ref this), (1, .int p0), (2, .int p1)]) hx hb d_M_spot_21 rfl hl (by decide) (.k 0 rfl (by decide) (by decide) (.k 1 rfl (by decide) (by decide) (.c 2 rfl (by decide) rfl .e))) (fun ls22 hl22 => ?_)
      refine lv_aload_n hx hb d_M_spot_22 rfl (lv_at hl22 0 rfl) ?_
      refine lv_iconst (v := (2 : Int32)) hx hb d_M_spot_23 (by decide) ?_
      refine r_putI (f := 56) S hZ hG hS rfl h.1 (hts _ tw_785) (fun _ h9 => h9) (Or.inl rfl) d_M_spot_24 (fun g23 H locs e9 hG hS => ?_)
      replace h := h.2 g23 e9
      refine lv_iconst (v := (0 : Int32)) hx hb d_M_spot_27 (by decide) ?_
      exact r_iret (v := (0 : Int32)) S hr hlk hG hS h hk.1 hk.2 d_M_spot_28
  · have hk := And.intro k1 k2
    replace h := h24
    exact r_iret (v := x15) S hr hlk hG hS h hk.1 hk.2 d_M_spot_11
def w_M_stood_17 (z mi mc ms : Nat) (post : Int32 → Sg → Prop) : Nat → Nat → Nat → Sg → Nat → Int32 → Int32 → Prop
  | 0 => fun _ _ _ _ _ _ => False
  | n + 1 => fun kc ks g this v2 v3 => (v3 < 0 → post (1 : Int32) g) ∧ (¬ v3 < 0 → (v2 ≤ v3 → (hasR g this 51 ∧ ∀ o18 : Option Nat, o18 = fR g 51 this → ∃ a19, o18 = some a19 ∧ (hasR g a19 48 ∧ ∀ o20 : Option Nat, o20 = fR g 48 a19 → ∃ a21, o20 = some a21 ∧ (∃ j22 : Nat, inA g a21 100 v3 j22 ∧ ∀ x23 : Int32, x23 = aI g a21 j22 → w_M_stood_17 z mi mc ms post n kc ks g this v2 x23)))) ∧ (¬ v2 ≤ v3 → post (0 : Int32) g))
set_option maxHeartbeats 4000000 in
set_option maxRecDepth 100000 in
theorem s_M_stood_17 {p : Program} {l : Launch} {e : Env} {s : State} {m : MethodId} {args : Array Value} {below : List Frame} {meth : Method} {c : Code} {D : va_G} {cA : Nat → ClassId} {sz z mi mc ms : Nat} {post : Int32 → Sg → Prop} (S : CallFix p m c b_M_stood 4 s args TBL "WeaveCoreModel") (hZ : Ws D cA sz z mi s) (hr : meth.sig.returnType = (some FieldType.boolean)) (hlk : meth.locks = false) :
    ∀ n : Nat, ∀ (kc ks : Nat) (g : Sg) (this : Nat) (v2 : Int32) (v3 : Int32) (H : Heap) (locs : List Loc) (ls : Array Slot), kc ≤ mc ∧ ks ≤ ms → w_M_stood_17 z mi mc ms post n kc ks g this v2 v3 → WP D cA sz g H → va_S (oA sz) s.heap H locs → lv_has ls 4 [(0, .ref this), (2, .int v2), (3, .int v3)] → W p l e ({ frames := 0, cells := mc, slots := ms, locals := 0 } : Room) s m args below meth c H locs kc ks (MQ below (Qg D cA sz (pI post)) args s mc ms (oA sz)) (F0 m 17 ls []) := by
  obtain ⟨hx, hb, hml, hown, hts⟩ := id S
  intro n
  induction n with
  | zero =>
    intro kc ks g this v2 v3 H locs ls hk h hG hS hl
    exact h.elim
  | succ n ih =>
    intro kc ks g this v2 v3 H locs ls hk h hG hS hl
    refine lv_iload_n hx hb d_M_stood_17 rfl (lv_at hl 2 rfl) ?_
    refine lv_if_lt (tgt := 41) hx hb d_M_stood_18 (by decide) (fun c9 => ?_) (fun c9 => ?_)
    · replace h := h.1 c9
      refine lv_iconst (v := (1 : Int32)) hx hb d_M_stood_41 (by decide) ?_
      exact r_zret (v := (1 : Int32)) S hr hlk rfl hG hS h hk.1 hk.2 d_M_stood_42
    · replace h := h.2 c9
      refine lv_iload_n hx hb d_M_stood_21 rfl (lv_at hl 2 rfl) ?_
      refine lv_iload_n hx hb d_M_stood_22 rfl (lv_at hl 1 rfl) ?_
      refine lv_icmp_ge (tgt := 28) hx hb d_M_stood_23 (by decide) (fun c9 => ?_) (fun c9 => ?_)
      · replace h := h.1 c9
        refine lv_aload_n hx hb d_M_stood_28 rfl (lv_at hl 0 rfl) ?_
        refine r_getR (f := 51) S hZ hG rfl h.1 (hts _ tw_780) (fun _ h9 => h9) d_M_stood_29 (fun o18 e9 => ?_)
        replace h := h.2 o18 e9
        obtain ⟨a19, e9, h⟩ := h
        subst e9
        refine r_getR (f := 48) S hZ hG rfl h.1 (hts _ tw_728) (fun _ h9 => h9) d_M_stood_32 (fun o20 e9 => ?_)
        replace h := h.2 o20 e9
        refine lv_iload_n hx hb d_M_stood_35 rfl (lv_at hl 2 rfl) ?_
        obtain ⟨a21, e9, h⟩ := h
        subst e9
        obtain ⟨j22, h9, h⟩ := h
        refine r_iald S hZ hG h9 d_M_stood_36 (fun x23 e9 => ?_)
        replace h := h x23 e9
        refine q_istore_n (lv' := [(3, .int x23), (0, .ref this), (2, .int v2)]) hx hb d_M_stood_37 rfl hl (by decide) (.n (.k 0 rfl (by decide) (by decide) (.c 1 rfl (by decide) rfl .e))) (fun ls24 hl24 => ?_)
        refine lv_goto (tgt := 17) hx hb d_M_stood_38 (by decide) ?_
        exact ih _ _ _ _ _ _ _ _ _ hk h hG hS (lv_sub hl24 [1, 2, 0] rfl)
      · replace h := h.2 c9
        refine lv_iconst (v := (0 : Int32)) hx hb d_M_stood_26 (by decide) ?_
        exact r_zret (v := (0 : Int32)) S hr hlk rfl hG hS h hk.1 hk.2 d_M_stood_27
def w_M_stood (z mi mc ms : Nat) (post : Int32 → Sg → Prop) (g : Sg) (this : Nat) (p0 : Int32) (p1 : Int32) : Prop := (p0 < p1 → (hasR g this 51 ∧ ∀ o11 : Option Nat, o11 = fR g 51 this → ∃ a12, o11 = some a12 ∧ (hasR g a12 49 ∧ ∀ o13 : Option Nat, o13 = fR g 49 a12 → ∃ a14, o13 = some a14 ∧ (∃ j15 : Nat, inA g a14 100 p0 j15 ∧ ∀ x16 : Int32, x16 = aI g a14 j15 → (∃ n25 : Nat, w_M_stood_17 z mi mc ms post n25 0 0 g this p1 x16))))) ∧ (¬ p0 < p1 → post (0 : Int32) g)
set_option maxHeartbeats 4000000 in
set_option maxRecDepth 100000 in
theorem s_M_stood {l : Launch} {D : va_G} {cA : Nat → ClassId} {sz z mi mc ms : Nat} {g : Sg} {post : Int32 → Sg → Prop} {this : Nat} {p0 : Int32} {p1 : Int32} (h : w_M_stood z mi mc ms post g this p0 p1) : Met l y_M_stood (Cond.code y_M_stood b_M_stood 4 (some FieldType.boolean) :: TBL) ({ frames := 0, cells := mc, slots := ms, locals := 0 } : Room) (Pg D cA sz z mi [.ref this, .int p0, .int p1] g) (Qg D cA sz (pI post)) mc ms (oA sz) := by
  refine m_code (lv := [(0, .ref this), (1, .int p0), (2, .int p1)]) (by decide +kernel) (Nat.le_of_ble_eq_true rfl) rfl ?_
  intro p e s m below meth c ls S hr hlk hnm hZ hG hS hl
  obtain ⟨hx, hb, hml, hown, hts⟩ := id S
  have hk : 0 ≤ mc ∧ 0 ≤ ms := ⟨Nat.zero_le _, Nat.zero_le _⟩
  refine lv_iload_n hx hb d_M_stood_0 rfl (lv_at hl 1 rfl) ?_
  refine lv_iload_n hx hb d_M_stood_1 rfl (lv_at hl 2 rfl) ?_
  refine lv_icmp_lt (tgt := 7) hx hb d_M_stood_2 (by decide) (fun c9 => ?_) (fun c9 => ?_)
  · replace h := h.1 c9
    refine lv_aload_n hx hb d_M_stood_7 rfl (lv_at hl 0 rfl) ?_
    refine r_getR (f := 51) S hZ hG rfl h.1 (hts _ tw_780) (fun _ h9 => h9) d_M_stood_8 (fun o11 e9 => ?_)
    replace h := h.2 o11 e9
    obtain ⟨a12, e9, h⟩ := h
    subst e9
    refine r_getR (f := 49) S hZ hG rfl h.1 (hts _ tw_730) (fun _ h9 => h9) d_M_stood_11 (fun o13 e9 => ?_)
    replace h := h.2 o13 e9
    refine lv_iload_n hx hb d_M_stood_14 rfl (lv_at hl 1 rfl) ?_
    obtain ⟨a14, e9, h⟩ := h
    subst e9
    obtain ⟨j15, h9, h⟩ := h
    refine r_iald S hZ hG h9 d_M_stood_15 (fun x16 e9 => ?_)
    replace h := h x16 e9
    refine q_istore_n (lv' := [(3, .int x16), (0, .ref this), (1, .int p0), (2, .int p1)]) hx hb d_M_stood_16 rfl hl (by decide) (.n (.k 0 rfl (by decide) (by decide) (.k 1 rfl (by decide) (by decide) (.c 2 rfl (by decide) rfl .e)))) (fun ls17 hl17 => ?_)
    obtain ⟨n25, h⟩ := h
    exact s_M_stood_17 S hZ hr hlk n25 _ _ _ _ _ _ _ _ _ hk h hG hS (lv_sub hl17 [1, 3, 0] rfl)
  · replace h := h.2 c9
    refine lv_iconst (v := (0 : Int32)) hx hb d_M_stood_5 (by decide) ?_
    exact r_zret (v := (0 : Int32)) S hr hlk rfl hG hS h hk.1 hk.2 d_M_stood_6
def w_M_was0_27 (z mi mc ms : Nat) (post : Int32 → Sg → Prop) (px : Nat → Sg → Prop) : Nat → Nat → Nat → Sg → Nat → Int32 → Int32 → Int32 → Prop
  | 0 => fun _ _ _ _ _ _ _ => False
  | n + 1 => fun kc ks g this v1 v2 v3 => (hasR g this 51 ∧ ∀ o20 : Option Nat, o20 = fR g 51 this → ∃ a21, o20 = some a21 ∧ (hasI g a21 31 ∧ ∀ x22 : Int32, x22 = fI g 31 a21 → (x22 ≤ v3 → post v2 g) ∧ (¬ x22 ≤ v3 → (hasR g this 51 ∧ ∀ o23 : Option Nat, o23 = fR g 51 this → ∃ a24, o23 = some a24 ∧ (hasR g a24 50 ∧ ∀ o25 : Option Nat, o25 = fR g 50 a24 → ∃ a26, o25 = some a26 ∧ (∃ j27 : Nat, inA g a26 100 v3 j27 ∧ ∀ x28 : Int32, x28 = aI g a26 j27 → (isK g this [6] ∧ ∃ c29 c30 : Nat, kc + c29 ≤ mc ∧ ks + c30 ≤ ms ∧ w_M_stood z mi c29 c30 (fun (x32 : Int32) (g31 : Sg) => (x32 = 0 → w_M_was0_27 z mi mc ms post px n (kc + c29) (ks + c30) g31 this v1 v2 (v3 + (1 : Int32))) ∧ (¬ x32 = 0 → w_M_was0_27 z mi mc ms post px n (kc + c29) (ks + c30) g31 this v1 (v2 + (1 : Int32)) (v3 + (1 : Int32)))) g this x28 v1)))))))
set_option maxHeartbeats 4000000 in
set_option maxRecDepth 100000 in
theorem s_M_was0_27 {p : Program} {l : Launch} {e : Env} {s : State} {m : MethodId} {args : Array Value} {below : List Frame} {meth : Method} {c : Code} {D : va_G} {cA : Nat → ClassId} {sz z mi mc ms : Nat} {post : Int32 → Sg → Prop} {px : Nat → Sg → Prop} (S : CallFix p m c b_M_was0 4 s args TBL "WeaveCoreModel") (hst : l.stackTraces = false) (hZ : Ws D cA sz z mi s) (hr : meth.sig.returnType = (some FieldType.int)) (hlk : meth.locks = false) (hxt : ∀ x ∈ c.exceptionTable.toList, False) :
    ∀ n : Nat, ∀ (kc ks : Nat) (g : Sg) (this : Nat) (v1 : Int32) (v2 : Int32) (v3 : Int32) (H : Heap) (locs : List Loc) (ls : Array Slot), kc ≤ mc ∧ ks ≤ ms → w_M_was0_27 z mi mc ms post px n kc ks g this v1 v2 v3 → WP D cA sz g H → va_S (oA sz) s.heap H locs → lv_has ls 4 [(0, .ref this), (1, .int v1), (2, .int v2), (3, .int v3)] → W p l e ({ frames := 6, cells := mc, slots := ms, locals := 90 } : Room) s m args below meth c H locs kc ks (vx_MQ below (Qg D cA sz (pI post)) (Xg D cA sz px) args s mc ms (oA sz)) (F0 m 27 ls []) := by
  obtain ⟨hx, hb, hml, hown, hts⟩ := id S
  intro n
  induction n with
  | zero =>
    intro kc ks g this v1 v2 v3 H locs ls hk h hG hS hl
    exact h.elim
  | succ n ih =>
    intro kc ks g this v1 v2 v3 H locs ls hk h hG hS hl
    refine lv_iload_n hx hb d_M_was0_27 rfl (lv_at hl 3 rfl) ?_
    refine lv_aload_n hx hb d_M_was0_28 rfl (lv_at hl 0 rfl) ?_
    refine r_getR (f := 51) S hZ hG rfl h.1 (hts _ tw_780) (fun _ h9 => h9) d_M_was0_29 (fun o20 e9 => ?_)
    replace h := h.2 o20 e9
    obtain ⟨a21, e9, h⟩ := h
    subst e9
    refine r_getI (f := 31) S hZ hG rfl h.1 (hts _ tw_703) (fun _ h9 => h9) d_M_was0_32 (fun x22 e9 => ?_)
    replace h := h.2 x22 e9
    refine lv_icmp_ge (tgt := 64) hx hb d_M_was0_35 (by decide) (fun c9 => ?_) (fun c9 => ?_)
    · replace h := h.1 c9
      refine lv_iload_n hx hb d_M_was0_64 rfl (lv_at hl 2 rfl) ?_
      exact vx_ret (r_iret (v := v2) S hr hlk hG hS h hk.1 hk.2 d_M_was0_65)
    · replace h := h.2 c9
      refine lv_aload_n hx hb d_M_was0_38 rfl (lv_at hl 0 rfl) ?_
      refine lv_aload_n hx hb d_M_was0_39 rfl (lv_at hl 0 rfl) ?_
      refine r_getR (f := 51) S hZ hG rfl h.1 (hts _ tw_780) (fun _ h9 => h9) d_M_was0_40 (fun o23 e9 => ?_)
      replace h := h.2 o23 e9
      obtain ⟨a24, e9, h⟩ := h
      subst e9
      refine r_getR (f := 50) S hZ hG rfl h.1 (hts _ tw_732) (fun _ h9 => h9) d_M_was0_43 (fun o25 e9 => ?_)
      replace h := h.2 o25 e9
      refine lv_iload_n hx hb d_M_was0_46 rfl (lv_at hl 3 rfl) ?_
      obtain ⟨a26, e9, h⟩ := h
      subst e9
      obtain ⟨j27, h9, h⟩ := h
      refine r_iald S hZ hG h9 d_M_was0_47 (fun x28 e9 => ?_)
      replace h := h x28 e9
      refine lv_iload_n hx hb d_M_was0_48 rfl (lv_at hl 1 rfl) ?_
      obtain ⟨h9, h⟩ := h
      obtain ⟨c29, c30, k1, k2, h⟩ := h
      obtain ⟨n9, h9⟩ := isK1 h9
      refine q_callI (run_V (As := [.int x28, .int v1]) (rest := []) S hZ hG hS (s_M_stood h) tw_1027 tw_1024 tw_1026 tp_55 tw_8 nk_M_stood h9 (by decide) rfl ⟨Nat.le_of_ble_eq_true rfl, Nat.le_of_ble_eq_true rfl⟩ rfl hl.1 rfl (by decide) d_M_was0_49 ⟨k1, k2⟩) hS (fun x32 g31 H locs h36 hG hS => ?_)
      have hk := And.intro k1 k2
      replace h := h36
      refine lv_if_eq (tgt := 58) hx hb d_M_was0_52 (by decide) (fun c9 => ?_) (fun c9 => ?_)
      · replace h := h.1 c9
        refine q_iinc (k := 3) (v := v3 + (1 : Int32)) (lv' := [(3, .int (v3 + (1 : Int32))), (0, .ref this), (1, .int v1), (2, .int v2)]) hx hb d_M_was0_58 hl rfl rfl (by decide) (.n (.k 0 rfl (by decide) (by decide) (.k 1 rfl (by decide) (by decide) (.c 2 rfl (by decide) rfl .e)))) (fun ls33 hl33 => ?_)
        refine lv_goto (tgt := 27) hx hb d_M_was0_61 (by decide) ?_
        exact ih _ _ _ _ _ _ _ _ _ _ hk h hG hS (lv_sub hl33 [1, 2, 3, 0] rfl)
      · replace h := h.2 c9
        refine q_iinc (k := 2) (v := v2 + (1 : Int32)) (lv' := [(2, .int (v2 + (1 : Int32))), (0, .ref this), (1, .int v1), (3, .int v3)]) hx hb d_M_was0_55 hl rfl rfl (by decide) (.n (.k 0 rfl (by decide) (by decide) (.c 1 rfl (by decide) rfl (.k 3 rfl (by decide) (by decide) .e)))) (fun ls34 hl34 => ?_)
        refine q_iinc (k := 3) (v := v3 + (1 : Int32)) (lv' := [(3, .int (v3 + (1 : Int32))), (2, .int (v2 + (1 : Int32))), (0, .ref this), (1, .int v1)]) hx hb d_M_was0_58 hl34 rfl rfl (by decide) (.n (.c 0 rfl (by decide) rfl (.k 1 rfl (by decide) (by decide) (.k 2 rfl (by decide) (by decide) .e)))) (fun ls35 hl35 => ?_)
        refine lv_goto (tgt := 27) hx hb d_M_was0_61 (by decide) ?_
        exact ih _ _ _ _ _ _ _ _ _ _ hk h hG hS (lv_sub hl35 [2, 3, 1, 0] rfl)
def w_M_was0 (z mi mc ms : Nat) (post : Int32 → Sg → Prop) (px : Nat → Sg → Prop) (g : Sg) (this : Nat) (p0 : Int32) : Prop := (hasR g this 51 ∧ ∀ o11 : Option Nat, o11 = fR g 51 this → ∃ a12, o11 = some a12 ∧ (hasI g a12 29 ∧ ∀ x13 : Int32, x13 = fI g 29 a12 → (∃ c14 c15 : Nat, 0 + c14 ≤ mc ∧ 0 + c15 ≤ ms ∧ w_M_in z mi c14 c15 (fun (x17 : Int32) (g16 : Sg) => (¬ x17 = 0 → (∃ n37 : Nat, w_M_was0_27 z mi mc ms post px n37 (0 + c14) (0 + c15) g16 this p0 (0 : Int32) (0 : Int32))) ∧ (x17 = 0 → (0 + c14) + 1 ≤ mc ∧ (0 + c15) + 6 ≤ ms ∧ px 4 g16)) g p0 (0 : Int32) x13)))
set_option maxHeartbeats 4000000 in
set_option maxRecDepth 100000 in
theorem s_M_was0 {l : Launch} {D : va_G} {cA : Nat → ClassId} {sz z mi mc ms : Nat} {g : Sg} {post : Int32 → Sg → Prop} {px : Nat → Sg → Prop} {this : Nat} {p0 : Int32} (hst : l.stackTraces = false) (h : w_M_was0 z mi mc ms post px g this p0) : vx_Met l y_M_was0 (Cond.code y_M_was0 b_M_was0 4 (some FieldType.int) :: TBL) ({ frames := 6, cells := mc, slots := ms, locals := 90 } : Room) (Pg D cA sz z mi [.ref this, .int p0] g) (Qg D cA sz (pI post)) (Xg D cA sz px) mc ms (oA sz) := by
  refine m_codeX (lv := [(0, .ref this), (1, .int p0)]) (by decide +kernel) (Nat.le_of_ble_eq_true rfl) rfl ?_
  intro p e s m below meth c ls hxt S hr hlk hnm hZ hG hS hl
  obtain ⟨hx, hb, hml, hown, hts⟩ := id S
  have hk : 0 ≤ mc ∧ 0 ≤ ms := ⟨Nat.zero_le _, Nat.zero_le _⟩
  refine lv_iload_n hx hb d_M_was0_0 rfl (lv_at hl 1 rfl) ?_
  refine lv_iconst (v := (0 : Int32)) hx hb d_M_was0_1 (by decide) ?_
  refine lv_aload_n hx hb d_M_was0_2 rfl (lv_at hl 0 rfl) ?_
  refine r_getR (f := 51) S hZ hG rfl h.1 (hts _ tw_780) (fun _ h9 => h9) d_M_was0_3 (fun o11 e9 => ?_)
  replace h := h.2 o11 e9
  obtain ⟨a12, e9, h⟩ := h
  subst e9
  refine r_getI (f := 29) S hZ hG rfl h.1 (hts _ tw_698) (fun _ h9 => h9) d_M_was0_6 (fun x13 e9 => ?_)
  replace h := h.2 x13 e9
  obtain ⟨c14, c15, k1, k2, h⟩ := h
  refine q_callI (run_S (As := [.int p0, .int ((0 : Int32)), .int x13]) (rest := []) S hZ hG hS (s_M_in h) tw_893 tw_891 tw_892 tw_8 nk_M_in ⟨Nat.le_of_ble_eq_true rfl, Nat.le_of_ble_eq_true rfl⟩ rfl hl.1 rfl (by decide) d_M_was0_9 ⟨k1, k2⟩) hS (fun x17 g16 H locs h38 hG hS => ?_)
  have hk := And.intro k1 k2
  replace h := h38
  refine lv_if_ne (tgt := 23) hx hb d_M_was0_12 (by decide) (fun c9 => ?_) (fun c9 => ?_)
  · replace h := h.1 c9
    refine lv_iconst (v := (0 : Int32)) hx hb d_M_was0_23 (by decide) ?_
    refine q_istore_n (lv' := [(2, .int ((0 : Int32))), (0, .ref this), (1, .int p0)]) hx hb d_M_was0_24 rfl hl (by decide) (.n (.k 0 rfl (by decide) (by decide) (.c 1 rfl (by decide) rfl .e))) (fun ls18 hl18 => ?_)
    refine lv_iconst (v := (0 : Int32)) hx hb d_M_was0_25 (by decide) ?_
    refine q_istore_n (lv' := [(3, .int ((0 : Int32))), (2, .int ((0 : Int32))), (0, .ref this), (1, .int p0)]) hx hb d_M_was0_26 rfl hl18 (by decide) (.n (.c 0 rfl (by decide) rfl (.k 1 rfl (by decide) (by decide) (.k 2 rfl (by decide) (by decide) .e)))) (fun ls19 hl19 => ?_)
    obtain ⟨n37, h⟩ := h
    exact s_M_was0_27 S hst hZ hr hlk hxt n37 _ _ _ _ _ _ _ _ _ _ hk h hG hS (lv_sub hl19 [2, 3, 1, 0] rfl)
  · replace h := h.2 c9
    exact r_throw (i := 4) S hst hZ hG hS (by decide) tw_886 tw_21 xa_M_110_112 xb_M_110_112 xo_M_110_112 hl.1 d_M_was0_15 d_M_was0_18 d_M_was0_19 d_M_was0_22 (fun x hx => (hxt x hx).elim) (Nat.le_of_ble_eq_true rfl) (Nat.le_of_ble_eq_true rfl) rfl rfl hlk h.2.2 h.1 h.2.1
