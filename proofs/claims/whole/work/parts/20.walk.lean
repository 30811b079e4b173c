def w_AC_init (z mi mc ms : Nat) (post : Sg → Prop) (g : Sg) (this : Nat) : Prop := post g
set_option maxHeartbeats 4000000 in
set_option maxRecDepth 100000 in
theorem s_AC_init {l : Launch} {D : va_G} {cA : Nat → ClassId} {sz z mi mc ms : Nat} {g : Sg} {post : Sg → Prop} {this : Nat} (h : w_AC_init z mi mc ms post g this) : Met l y_AC_init (Cond.code y_AC_init b_AC_init 1 none :: TBL) ({ frames := 1, cells := mc, slots := ms, locals := 22 } : Room) (Pg D cA sz z mi [.ref this] g) (Qg D cA sz (pV post)) mc ms (oA sz) := by
  refine m_code (lv := [(0, .ref this)]) (by decide +kernel) (Nat.le_of_ble_eq_true rfl) rfl ?_
  intro p e s m below meth c ls S hr hlk hnm hZ hG hS hl
  obtain ⟨hx, hb, hml, hown, hts⟩ := id S
  have hk : 0 ≤ mc ∧ 0 ≤ ms := ⟨Nat.zero_le _, Nat.zero_le _⟩
  refine lv_aload_n hx hb d_AC_init_0 rfl (lv_at hl 0 rfl) ?_
  refine W.objInit hx hb hown (hts _ tw_46) (hts _ tw_31) (hts _ tw_32) rfl (by rw [hml]; exact hl.1) rfl d_AC_init_1 (Nat.le_of_ble_eq_true rfl) (Nat.le_of_ble_eq_true rfl) ?_
  refine W.eq (g2 := F0 m 4 ls []) rfl ?_
  exact r_vret S hr hlk hG hS h hk.1 hk.2 d_AC_init_4
def w_AB_init (z mi mc ms : Nat) (post : Sg → Prop) (g : Sg) (this : Nat) : Prop := (∃ c11 c12 : Nat, 0 + c11 ≤ mc ∧ 0 + c12 ≤ ms ∧ w_AC_init z mi c11 c12 (fun (g13 : Sg) => (hasI g13 this 1 ∧ ∀ g14 : Sg, g14 = wI g13 1 this (0 : Int32) → post g14)) g this)
set_option maxHeartbeats 4000000 in
set_option maxRecDepth 100000 in
theorem s_AB_init {l : Launch} {D : va_G} {cA : Nat → ClassId} {sz z mi mc ms : Nat} {g : Sg} {post : Sg → Prop} {this : Nat} (h : w_AB_init z mi mc ms post g this) : Met l y_AB_init (Cond.code y_AB_init b_AB_init 1 none :: TBL) ({ frames := 2, cells := mc, slots := ms, locals := 42 } : Room) (Pg D cA sz z mi [.ref this] g) (Qg D cA sz (pV post)) mc ms (oA sz) := by
  refine m_code (lv := [(0, .ref this)]) (by decide +kernel) (Nat.le_of_ble_eq_true rfl) rfl ?_
  intro p e s m below meth c ls S hr hlk hnm hZ hG hS hl
  obtain ⟨hx, hb, hml, hown, hts⟩ := id S
  have hk : 0 ≤ mc ∧ 0 ≤ ms := ⟨Nat.zero_le _, Nat.zero_le _⟩
  refine lv_aload_n hx hb d_AB_init_0 rfl (lv_at hl 0 rfl) ?_
  obtain ⟨c11, c12, k1, k2, h⟩ := h
  refine q_callV (run_I (As := []) (rest := []) S hZ hG hS (s_AC_init h) tw_45 tw_43 tw_44 tw_2 rfl nk_AC_init ⟨Nat.le_of_ble_eq_true rfl, Nat.le_of_ble_eq_true rfl⟩ rfl hl.1 rfl (by decide) d_AB_init_1 ⟨k1, k2⟩) hS (fun g13 H locs h15 hG hS => ?_)
  have hk := And.intro k1 k2
  replace h := h15
  refine lv_aload_n hx hb d_AB_init_4 rfl (lv_at hl 0 rfl) ?_
  refine lv_iconst (v := (0 : Int32)) hx hb d_AB_init_5 (by decide) ?_
  refine r_putI (f := 1) S hZ hG hS rfl h.1 (hts _ tw_51) (fun _ h9 => h9) (Or.inl rfl) d_AB_init_6 (fun g14 H locs e9 hG hS => ?_)
  replace h := h.2 g14 e9
  exact r_vret S hr hlk hG hS h hk.1 hk.2 d_AB_init_9
def w_AL_init (z mi mc ms : Nat) (post : Sg → Prop) (g : Sg) (this : Nat) : Prop := (∃ c11 c12 : Nat, 0 + c11 ≤ mc ∧ 0 + c12 ≤ ms ∧ w_AB_init z mi c11 c12 (fun (g13 : Sg) => (hasR g13 this 2 ∧ ∀ g14 : Sg, g14 = wR g13 2 this (some z) → post g14)) g this)
set_option maxHeartbeats 4000000 in
set_option maxRecDepth 100000 in
theorem s_AL_init {l : Launch} {D : va_G} {cA : Nat → ClassId} {sz z mi mc ms : Nat} {g : Sg} {post : Sg → Prop} {this : Nat} (h : w_AL_init z mi mc ms post g this) : Met l y_AL_init (Cond.code y_AL_init b_AL_init 1 none :: TBL) ({ frames := 3, cells := mc, slots := ms, locals := 62 } : Room) (Pg D cA sz z mi [.ref this] g) (Qg D cA sz (pV post)) mc ms (oA sz) := by
  refine m_code (lv := [(0, .ref this)]) (by decide +kernel) (Nat.le_of_ble_eq_true rfl) rfl ?_
  intro p e s m below meth c ls S hr hlk hnm hZ hG hS hl
  obtain ⟨hx, hb, hml, hown, hts⟩ := id S
  have hk : 0 ≤ mc ∧ 0 ≤ ms := ⟨Nat.zero_le _, Nat.zero_le _⟩
  refine lv_aload_n hx hb d_AL_init_0 rfl (lv_at hl 0 rfl) ?_
  obtain ⟨c11, c12, k1, k2, h⟩ := h
  refine q_callV (run_I (As := []) (rest := []) S hZ hG hS (s_AB_init h) tw_42 tw_40 tw_41 tw_3 rfl nk_AB_init ⟨Nat.le_of_ble_eq_true rfl, Nat.le_of_ble_eq_true rfl⟩ rfl hl.1 rfl (by decide) d_AL_init_1 ⟨k1, k2⟩) hS (fun g13 H locs h15 hG hS => ?_)
  have hk := And.intro k1 k2
  replace h := h15
  refine lv_aload_n hx hb d_AL_init_4 rfl (lv_at hl 0 rfl) ?_
  refine va_gets hx hb hZ.2.2.2.2.2.1 hS hown (hts _ tw_47) (fun _ h9 => h9) d_AL_init_5 ?_
  refine r_putR (f := 2) (v := (some z)) S hZ hG hS rfl h.1 (hts _ tw_49) (fun _ h9 => h9) (Or.inl rfl) d_AL_init_8 (fun g14 H locs e9 hG hS => ?_)
  replace h := h.2 g14 e9
  exact r_vret S hr hlk hG hS h hk.1 hk.2 d_AL_init_11
def w_A_init (z mi mc ms : Nat) (post : Sg → Prop) (g : Sg) (this : Nat) (p0 : Int32) (p1 : Int32) : Prop := (hasI g this 4 ∧ ∀ g11 : Sg, g11 = wI g 4 this p0 → (hasI g11 this 5 ∧ ∀ g12 : Sg, g12 = wI g11 5 this p1 → (0 + 1 ≤ mc ∧ 0 + 3 ≤ ms ∧ ∀ a13 : Nat, hT g12 a13 = none → ∀ g14 : Sg, g14 = nO g12 a13 0 3 → (∃ c15 c16 : Nat, (0 + 1) + c15 ≤ mc ∧ (0 + 3) + c16 ≤ ms ∧ w_AL_init z mi c15 c16 (fun (g17 : Sg) => (hasR g17 this 6 ∧ ∀ g18 : Sg, g18 = wR g17 6 this (some a13) → post g18)) g14 a13))))
set_option maxHeartbeats 4000000 in
set_option maxRecDepth 100000 in
theorem s_A_init {l : Launch} {D : va_G} {cA : Nat → ClassId} {sz z mi mc ms : Nat} {g : Sg} {post : Sg → Prop} {this : Nat} {p0 : Int32} {p1 : Int32} (h : w_A_init z mi mc ms post g this p0 p1) : Met l y_A_init (Cond.code y_A_init b_A_init 3 none :: TBL) ({ frames := 4, cells := mc, slots := ms, locals := 82 } : Room) (Pg D cA sz z mi [.ref this, .int p0, .int p1] g) (Qg D cA sz (pV post)) mc ms (oA sz) := by
  refine m_code (lv := [(0, .ref this), (1, .int p0), (2, .int p1)]) (by decide +kernel) (Nat.le_of_ble_eq_true rfl) rfl ?_
  intro p e s m below meth c ls S hr hlk hnm hZ hG hS hl
  obtain ⟨hx, hb, hml, hown, hts⟩ := id S
  have hk : 0 ≤ mc ∧ 0 ≤ ms := ⟨Nat.zero_le _, Nat.zero_le _⟩
  refine lv_aload_n hx hb d_A_init_0 rfl (lv_at hl 0 rfl) ?_
  refine W.objInit hx hb hown (hts _ tw_69) (hts _ tw_31) (hts _ tw_32) rfl (by rw [hml]; exact hl.1) rfl d_A_init_1 (Nat.le_of_ble_eq_true rfl) (Nat.le_of_ble_eq_true rfl) ?_
  refine W.eq (g2 := F0 m 4 ls []) rfl ?_
  refine lv_aload_n hx hb d_A_init_4 rfl (lv_at hl 0 rfl) ?_
  refine lv_iload_n hx hb d_A_init_5 rfl (lv_at hl 1 rfl) ?_
  refine r_putI (f := 4) S hZ hG hS rfl h.1 (hts _ tw_72) (fun _ h9 => h9) (Or.inr ⟨rfl, hnm, rfl⟩) d_A_init_6 (fun g11 H locs e9 hG hS => ?_)
  replace h := h.2 g11 e9
  refine lv_aload_n hx hb d_A_init_9 rfl (lv_at hl 0 rfl) ?_
  refine lv_iload_n hx hb d_A_init_10 rfl (lv_at hl 2 rfl) ?_
  refine r_putI (f := 5) S hZ hG hS rfl h.1 (hts _ tw_75) (fun _ h9 => h9) (Or.inr ⟨rfl, hnm, rfl⟩) d_A_init_11 (fun g12 H locs e9 hG hS => ?_)
  replace h := h.2 g12 e9
  refine lv_aload_n hx hb d_A_init_14 rfl (lv_at hl 0 rfl) ?_
  refine r_new (k := 0) S hZ hG hS (by decide) rfl (hts _ tw_70) (hts _ tw_36) (hts _ tw_4) h.1 h.2.1 d_A_init_15 (fun a13 g14 H f9 e9 hG hS => ?_)
  have hk := And.intro h.1 h.2.1
  replace h := h.2.2 a13 f9 g14 e9
  refine lv_dup hx hb d_A_init_18 rfl ?_
  obtain ⟨c15, c16, k1, k2, h⟩ := h
  refine q_callV (run_I (As := []) (rest := [.ref a13, .ref this]) S hZ hG hS (s_AL_init h) tw_39 tw_71 tw_38 tw_4 rfl nk_AL_init ⟨Nat.le_of_ble_eq_true rfl, Nat.le_of_ble_eq_true rfl⟩ rfl hl.1 rfl (Nat.le_of_ble_eq_true rfl) d_A_init_19 ⟨k1, k2⟩) hS (fun g17 H locs h19 hG hS => ?_)
  have hk := And.intro k1 k2
  replace h := h19
  refine r_putR (f := 6) (v := (some a13)) S hZ hG hS rfl h.1 (hts _ tw_79) (fun _ h9 => h9) (Or.inr ⟨rfl, hnm, rfl⟩) d_A_init_22 (fun g18 H locs e9 hG hS => ?_)
  replace h := h.2 g18 e9
  exact r_vret S hr hlk hG hS h hk.1 hk.2 d_A_init_25
def w_AL_size (z mi mc ms : Nat) (post : Int32 → Sg → Prop) (g : Sg) (this : Nat) : Prop := (hasI g this 3 ∧ ∀ x11 : Int32, x11 = fI g 3 this → post x11 g)
set_option maxHeartbeats 4000000 in
set_option maxRecDepth 100000 in
theorem s_AL_size {l : Launch} {D : va_G} {cA : Nat → ClassId} {sz z mi mc ms : Nat} {g : Sg} {post : Int32 → Sg → Prop} {this : Nat} (h : w_AL_size z mi mc ms post g this) : Met l y_AL_size (Cond.code y_AL_size b_AL_size 1 (some FieldType.int) :: TBL) ({ frames := 0, cells := mc, slots := ms, locals := 0 } : Room) (Pg D cA sz z mi [.ref this] g) (Qg D cA sz (pI post)) mc ms (oA sz) := by
  refine m_code (lv := [(0, .ref this)]) (by decide +kernel) (Nat.le_of_ble_eq_true rfl) rfl ?_
  intro p e s m below meth c ls S hr hlk hnm hZ hG hS hl
  obtain ⟨hx, hb, hml, hown, hts⟩ := id S
  have hk : 0 ≤ mc ∧ 0 ≤ ms := ⟨Nat.zero_le _, Nat.zero_le _⟩
  refine lv_aload_n hx hb d_AL_size_0 rfl (lv_at hl 0 rfl) ?_
  refine r_getI (f := 3) S hZ hG rfl h.1 (hts _ tw_50) (fun _ h9 => h9) d_AL_size_1 (fun x11 e9 => ?_)
  replace h := h.2 x11 e9
  exact r_iret (v := x11) S hr hlk hG hS h hk.1 hk.2 d_AL_size_4
def w_E_init (z mi mc ms : Nat) (post : Sg → Prop) (g : Sg) (this : Nat) (p0 : Option Nat) (p1 : Option Nat) : Prop := (hasR g this 7 ∧ ∀ g11 : Sg, g11 = wR g 7 this p0 → ∃ a12, p0 = some a12 ∧ (hasR g11 a12 6 ∧ ∀ o14 : Option Nat, o14 = fR g11 6 a12 → ∃ a15, o14 = some a15 ∧ (isK g11 a15 [0] ∧ ∃ c16 c17 : Nat, 0 + c16 ≤ mc ∧ 0 + c17 ≤ ms ∧ w_AL_size z mi c16 c17 (fun (x19 : Int32) (g18 : Sg) => (hasI g18 this 8 ∧ ∀ g20 : Sg, g20 = wI g18 8 this x19 → (hasR g20 this 9 ∧ ∀ g21 : Sg, g21 = wR g20 9 this p1 → post g21))) g11 a15)))
set_option maxHeartbeats 4000000 in
set_option maxRecDepth 100000 in
theorem s_E_init {l : Launch} {D : va_G} {cA : Nat → ClassId} {sz z mi mc ms : Nat} {g : Sg} {post : Sg → Prop} {this : Nat} {p0 : Option Nat} {p1 : Option Nat} (h : w_E_init z mi mc ms post g this p0 p1) : Met l y_E_init (Cond.code y_E_init b_E_init 3 none :: TBL) ({ frames := 1, cells := mc, slots := ms, locals := 22 } : Room) (Pg D cA sz z mi [.ref this, va_rf p0, va_rf p1] g) (Qg D cA sz (pV post)) mc ms (oA sz) := by
  refine m_code (lv := [(0, .ref this), (1, va_rf p0), (2, va_rf p1)]) (by decide +kernel) (by simp [lg_sl, rf_cat, cat_i, cat_r, cat_l]) (by simp [lv_args, rf_cat, cat_i, cat_r, cat_l]) ?_
  intro p e s m below meth c ls S hr hlk hnm hZ hG hS hl
  obtain ⟨hx, hb, hml, hown, hts⟩ := id S
  have hk : 0 ≤ mc ∧ 0 ≤ ms := ⟨Nat.zero_le _, Nat.zero_le _⟩
  refine lv_aload_n hx hb d_E_init_0 rfl (lv_at hl 0 rfl) ?_
  refine W.objInit hx hb hown (hts _ tw_95) (hts _ tw_31) (hts _ tw_32) rfl (by rw [hml]; exact hl.1) rfl d_E_init_1 (Nat.le_of_ble_eq_true rfl) (Nat.le_of_ble_eq_true rfl) ?_
  refine W.eq (g2 := F0 m 4 ls []) rfl ?_
  refine lv_aload_n hx hb d_E_init_4 rfl (lv_at hl 0 rfl) ?_
  refine q_aload_n hx hb d_E_init_5 rfl (lv_at hl 1 rfl) ?_
  refine r_putR (f := 7) (v := p0) S hZ hG hS rfl h.1 (hts _ tw_113) (fun _ h9 => h9) (Or.inr ⟨rfl, hnm, rfl⟩) d_E_init_6 (fun g11 H locs e9 hG hS => ?_)
  replace h := h.2 g11 e9
  refine lv_aload_n hx hb d_E_init_9 rfl (lv_at hl 0 rfl) ?_
  refine q_aload_n hx hb d_E_init_10 rfl (lv_at hl 1 rfl) ?_
  obtain ⟨a12, e9, h⟩ := h
  subst e9
  have hl13 : lv_has ls 3 [(0, .ref this), (1, .ref a12), (2, va_rf p1)] := hl
  refine r_getR (f := 6) S hZ hG rfl h.1 (hts _ tw_78) (fun _ h9 => h9) d_E_init_11 (fun o14 e9 => ?_)
  replace h := h.2 o14 e9
  obtain ⟨a15, e9, h⟩ := h
  subst e9
  obtain ⟨h9, h⟩ := h
  obtain ⟨c16, c17, k1, k2, h⟩ := h
  obtain ⟨n9, h9⟩ := isK1 h9
  refine q_callI (run_V (As := []) (rest := [.ref this]) S hZ hG hS (s_AL_size h) tw_99 tw_96 tw_97 tw_98 tw_4 nk_AL_size h9 (by decide) rfl ⟨Nat.le_of_ble_eq_true rfl, Nat.le_of_ble_eq_true rfl⟩ rfl hl13.1 rfl (Nat.le_of_ble_eq_true rfl) d_E_init_14 ⟨k1, k2⟩) hS (fun x19 g18 H locs h22 hG hS => ?_)
  have hk := And.intro k1 k2
  replace h := h22
  refine r_putI (f := 8) S hZ hG hS rfl h.1 (hts _ tw_117) (fun _ h9 => h9) (Or.inr ⟨rfl, hnm, rfl⟩) d_E_init_17 (fun g20 H locs e9 hG hS => ?_)
  replace h := h.2 g20 e9
  refine lv_aload_n hx hb d_E_init_20 rfl (lv_at hl13 0 rfl) ?_
  refine q_aload_n hx hb d_E_init_21 rfl (lv_at hl13 2 rfl) ?_
  refine r_putR (f := 9) (v := p1) S hZ hG hS rfl h.1 (hts _ tw_120) (fun _ h9 => h9) (Or.inr ⟨rfl, hnm, rfl⟩) d_E_init_22 (fun g21 H locs e9 hG hS => ?_)
  replace h := h.2 g21 e9
  exact r_vret S hr hlk hG hS h hk.1 hk.2 d_E_init_25
def w_N_init (z mi mc ms : Nat) (post : Sg → Prop) (g : Sg) (this : Nat) (p0 : Option Nat) (p1 : Option Nat) (p2 : Int32) : Prop := (∃ c11 c12 : Nat, 0 + c11 ≤ mc ∧ 0 + c12 ≤ ms ∧ w_E_init z mi c11 c12 (fun (g13 : Sg) => (hasI g13 this 13 ∧ ∀ g14 : Sg, g14 = wI g13 13 this p2 → (hasI g14 this 20 ∧ ∀ g15 : Sg, g15 = wI g14 20 this (1000000 : Int32) → post g15))) g this p0 p1)
set_option maxHeartbeats 4000000 in
set_option maxRecDepth 100000 in
theorem s_N_init {l : Launch} {D : va_G} {cA : Nat → ClassId} {sz z mi mc ms : Nat} {g : Sg} {post : Sg → Prop} {this : Nat} {p0 : Option Nat} {p1 : Option Nat} {p2 : Int32} (h : w_N_init z mi mc ms post g this p0 p1 p2) : Met l y_N_init (Cond.code y_N_init b_N_init 4 none :: TBL) ({ frames := 2, cells := mc, slots := ms, locals := 44 } : Room) (Pg D cA sz z mi [.ref this, va_rf p0, va_rf p1, .int p2] g) (Qg D cA sz (pV post)) mc ms (oA sz) := by
  refine m_code (lv := [(0, .ref this), (1, va_rf p0), (2, va_rf p1), (3, .int p2)]) (by decide +kernel) (by simp [lg_sl, rf_cat, cat_i, cat_r, cat_l]) (by simp [lv_args, rf_cat, cat_i, cat_r, cat_l]) ?_
  intro p e s m below meth c ls S hr hlk hnm hZ hG hS hl
  obtain ⟨hx, hb, hml, hown, hts⟩ := id S
  have hk : 0 ≤ mc ∧ 0 ≤ ms := ⟨Nat.zero_le _, Nat.zero_le _⟩
  refine lv_aload_n hx hb d_N_init_0 rfl (lv_at hl 0 rfl) ?_
  refine q_aload_n hx hb d_N_init_1 rfl (lv_at hl 1 rfl) ?_
  refine q_aload_n hx hb d_N_init_2 rfl (lv_at hl 2 rfl) ?_
  obtain ⟨c11, c12, k1, k2, h⟩ := h
  refine q_callV (run_I (As := [va_rf p0, va_rf p1]) (rest := []) S hZ hG hS (s_E_init h) tw_94 tw_92 tw_93 tw_5 rfl nk_E_init ⟨Nat.le_of_ble_eq_true rfl, Nat.le_of_ble_eq_true rfl⟩ rfl hl.1 rfl (by decide) d_N_init_3 ⟨k1, k2⟩) hS (fun g13 H locs h16 hG hS => ?_)
  have hk := And.intro k1 k2
  replace h := h16
  refine lv_aload_n hx hb d_N_init_6 rfl (lv_at hl 0 rfl) ?_
  refine lv_iload_n hx hb d_N_init_7 rfl (lv_at hl 3 rfl) ?_
  refine r_putI (f := 13) S hZ hG hS rfl h.1 (hts _ tw_101) (fun _ h9 => h9) (Or.inr ⟨rfl, hnm, rfl⟩) d_N_init_8 (fun g14 H locs e9 hG hS => ?_)
  replace h := h.2 g14 e9
  refine lv_aload_n hx hb d_N_init_11 rfl (lv_at hl 0 rfl) ?_
  refine lv_ldc hx hb hown (hts _ tw_100) d_N_init_12 ?_
  refine r_putI (f := 20) S hZ hG hS rfl h.1 (hts _ tw_111) (fun _ h9 => h9) (Or.inl rfl) d_N_init_14 (fun g15 H locs e9 hG hS => ?_)
  replace h := h.2 g15 e9
  exact r_vret S hr hlk hG hS h hk.1 hk.2 d_N_init_17
def w_C_init (z mi mc ms : Nat) (post : Sg → Prop) (g : Sg) (this : Nat) : Prop := (∃ n13 : Nat, (16 : Int32) = nI n13 ∧ n13 ≤ 1000000 ∧ 0 + 1 ≤ mc ∧ 0 + n13 ≤ ms ∧ ∀ a11 : Nat, hT g a11 = none → ∀ g12 : Sg, g12 = nO g a11 104 n13 → (hasR g12 this 21 ∧ ∀ g14 : Sg, g14 = wR g12 21 this (some a11) → ((0 + 1) + 1 ≤ mc ∧ (0 + n13) + 3 ≤ ms ∧ ∀ a15 : Nat, hT g14 a15 = none → ∀ g16 : Sg, g16 = nO g14 a15 0 3 → (∃ c17 c18 : Nat, ((0 + 1) + 1) + c17 ≤ mc ∧ ((0 + n13) + 3) + c18 ≤ ms ∧ w_AL_init z mi c17 c18 (fun (g19 : Sg) => (hasR g19 this 22 ∧ ∀ g20 : Sg, g20 = wR g19 22 this (some a15) → (∃ n23 : Nat, (16 : Int32) = nI n23 ∧ n23 ≤ 1000000 ∧ (((0 + 1) + 1) + c17) + 1 ≤ mc ∧ (((0 + n13) + 3) + c18) + n23 ≤ ms ∧ ∀ a21 : Nat, hT g20 a21 = none → ∀ g22 : Sg, g22 = nO g20 a21 105 n23 → (hasR g22 this 24 ∧ ∀ g24 : Sg, g24 = wR g22 24 this (some a21) → (∃ n27 : Nat, (16 : Int32) = nI n27 ∧ n27 ≤ 1000000 ∧ ((((0 + 1) + 1) + c17) + 1) + 1 ≤ mc ∧ ((((0 + n13) + 3) + c18) + n23) + n27 ≤ ms ∧ ∀ a25 : Nat, hT g24 a25 = none → ∀ g26 : Sg, g26 = nO g24 a25 100 n27 → (hasR g26 this 25 ∧ ∀ g28 : Sg, g28 = wR g26 25 this (some a25) → ((((((0 + 1) + 1) + c17) + 1) + 1) + 1 ≤ mc ∧ (((((0 + n13) + 3) + c18) + n23) + n27) + 13 ≤ ms ∧ ∀ a29 : Nat, hT g28 a29 = none → ∀ g30 : Sg, g30 = nO g28 a29 3 13 → (((((((0 + 1) + 1) + c17) + 1) + 1) + 1) + 1 ≤ mc ∧ ((((((0 + n13) + 3) + c18) + n23) + n27) + 13) + 3 ≤ ms ∧ ∀ a31 : Nat, hT g30 a31 = none → ∀ g32 : Sg, g32 = nO g30 a31 1 3 → (∃ c33 c34 : Nat, (((((((0 + 1) + 1) + c17) + 1) + 1) + 1) + 1) + c33 ≤ mc ∧ (((((((0 + n13) + 3) + c18) + n23) + n27) + 13) + 3) + c34 ≤ ms ∧ w_A_init z mi c33 c34 (fun (g35 : Sg) => (∃ n38 : Nat, (16 : Int32) = nI n38 ∧ n38 ≤ 1000000 ∧ ((((((((0 + 1) + 1) + c17) + 1) + 1) + 1) + 1) + c33) + 1 ≤ mc ∧ ((((((((0 + n13) + 3) + c18) + n23) + n27) + 13) + 3) + c34) + n38 ≤ ms ∧ ∀ a36 : Nat, hT g35 a36 = none → ∀ g37 : Sg, g37 = nO g35 a36 100 n38 → (∃ c39 c40 : Nat, (((((((((0 + 1) + 1) + c17) + 1) + 1) + 1) + 1) + c33) + 1) + c39 ≤ mc ∧ (((((((((0 + n13) + 3) + c18) + n23) + n27) + 13) + 3) + c34) + n38) + c40 ≤ ms ∧ w_N_init z mi c39 c40 (fun (g41 : Sg) => (hasR g41 this 23 ∧ ∀ g42 : Sg, g42 = wR g41 23 this (some a29) → (hasI g42 this 26 ∧ ∀ g43 : Sg, g43 = wI g42 26 this (0 : Int32) → (hasI g43 this 27 ∧ ∀ g44 : Sg, g44 = wI g43 27 this (0 : Int32) → (hasI g44 this 28 ∧ ∀ g45 : Sg, g45 = wI g44 28 this (0 : Int32) → post g45))))) g37 a29 (some a31) (some a36) (0 : Int32)))) g32 a31 (-1 : Int32) (0 : Int32)))))))))) g16 a15))))
set_option maxHeartbeats 4000000 in
set_option maxRecDepth 100000 in
theorem s_C_init {l : Launch} {D : va_G} {cA : Nat → ClassId} {sz z mi mc ms : Nat} {g : Sg} {post : Sg → Prop} {this : Nat} (h : w_C_init z mi mc ms post g this) : Met l y_C_init (Cond.code y_C_init b_C_init 1 none :: TBL) ({ frames := 5, cells := mc, slots := ms, locals := 104 } : Room) (Pg D cA sz z mi [.ref this] g) (Qg D cA sz (pV post)) mc ms (oA sz) := by
  refine m_code (lv := [(0, .ref this)]) (by decide +kernel) (Nat.le_of_ble_eq_true rfl) rfl ?_
  intro p e s m below meth c ls S hr hlk hnm hZ hG hS hl
  obtain ⟨hx, hb, hml, hown, hts⟩ := id S
  have hk : 0 ≤ mc ∧ 0 ≤ ms := ⟨Nat.zero_le _, Nat.zero_le _⟩
  refine lv_aload_n hx hb d_C_init_0 rfl (lv_at hl 0 rfl) ?_
  refine W.objInit hx hb hown (hts _ tw_30) (hts _ tw_31) (hts _ tw_32) rfl (by rw [hml]; exact hl.1) rfl d_C_init_1 (Nat.le_of_ble_eq_true rfl) (Nat.le_of_ble_eq_true rfl) ?_
  refine W.eq (g2 := F0 m 4 ls []) rfl ?_
  refine lv_aload_n hx hb d_C_init_4 rfl (lv_at hl 0 rfl) ?_
  refine lv_bipush (v := (16 : Int32)) hx hb d_C_init_5 (by decide) ?_
  obtain ⟨n13, e9, n9, h⟩ := h
  refine r_newq (k := 104) (n := n13) S hZ hG hS (hts _ tw_33) hZ.2.2.2.2.2.2.2.2.2.2.2.2.2.1 (by decide) rfl e9 n9 h.1 h.2.1 d_C_init_7 (fun a11 g12 H f9 e9 hG hS => ?_)
  have hk := And.intro h.1 h.2.1
  replace h := h.2.2 a11 f9 g12 e9
  refine r_putR (f := 21) (v := (some a11)) S hZ hG hS rfl h.1 (hts _ tw_152) (fun _ h9 => h9) (Or.inr ⟨rfl, hnm, rfl⟩) d_C_init_10 (fun g14 H locs e9 hG hS => ?_)
  replace h := h.2 g14 e9
  refine lv_aload_n hx hb d_C_init_13 rfl (lv_at hl 0 rfl) ?_
  refine r_new (k := 0) S hZ hG hS (by decide) rfl (hts _ tw_35) (hts _ tw_36) (hts _ tw_4) h.1 h.2.1 d_C_init_14 (fun a15 g16 H f9 e9 hG hS => ?_)
  have hk := And.intro h.1 h.2.1
  replace h := h.2.2 a15 f9 g16 e9
  refine lv_dup hx hb d_C_init_17 rfl ?_
  obtain ⟨c17, c18, k1, k2, h⟩ := h
  refine q_callV (run_I (As := []) (rest := [.ref a15, .ref this]) S hZ hG hS (s_AL_init h) tw_39 tw_37 tw_38 tw_4 rfl nk_AL_init ⟨Nat.le_of_ble_eq_true rfl, Nat.le_of_ble_eq_true rfl⟩ rfl hl.1 rfl (Nat.le_of_ble_eq_true rfl) d_C_init_18 ⟨k1, k2⟩) hS (fun g19 H locs h48 hG hS => ?_)
  have hk := And.intro k1 k2
  replace h := h48
  refine r_putR (f := 22) (v := (some a15)) S hZ hG hS rfl h.1 (hts _ tw_153) (fun _ h9 => h9) (Or.inr ⟨rfl, hnm, rfl⟩) d_C_init_21 (fun g20 H locs e9 hG hS => ?_)
  replace h := h.2 g20 e9
  refine lv_aload_n hx hb d_C_init_24 rfl (lv_at hl 0 rfl) ?_
  refine lv_bipush (v := (16 : Int32)) hx hb d_C_init_25 (by decide) ?_
  obtain ⟨n23, e9, n9, h⟩ := h
  refine r_newq (k := 105) (n := n23) S hZ hG hS (hts _ tw_61) hZ.2.2.2.2.2.2.2.2.2.2.2.2.2.2.1 (by decide) rfl e9 n9 h.1 h.2.1 d_C_init_27 (fun a21 g22 H f9 e9 hG hS => ?_)
  have hk := And.intro h.1 h.2.1
  replace h := h.2.2 a21 f9 g22 e9
  refine r_putR (f := 24) (v := (some a21)) S hZ hG hS rfl h.1 (hts _ tw_155) (fun _ h9 => h9) (Or.inr ⟨rfl, hnm, rfl⟩) d_C_init_30 (fun g24 H locs e9 hG hS => ?_)
  replace h := h.2 g24 e9
  refine lv_aload_n hx hb d_C_init_33 rfl (lv_at hl 0 rfl) ?_
  refine lv_bipush (v := (16 : Int32)) hx hb d_C_init_34 (by decide) ?_
  obtain ⟨n27, e9, n9, h⟩ := h
  refine r_newa (k := 100) (n := n27) (ty := .int) S hZ hG hS (hts _ tw_88) rfl ⟨by decide, by decide⟩ rfl e9 n9 (de_100 _ 0 _) (by decide) h.1 h.2.1 d_C_init_36 (fun a25 g26 H f9 e9 hG hS => ?_)
  have hk := And.intro h.1 h.2.1
  replace h := h.2.2 a25 f9 g26 e9
  refine r_putR (f := 25) (v := (some a25)) S hZ hG hS rfl h.1 (hts _ tw_156) (fun _ h9 => h9) (Or.inr ⟨rfl, hnm, rfl⟩) d_C_init_38 (fun g28 H locs e9 hG hS => ?_)
  replace h := h.2 g28 e9
  refine lv_aload_n hx hb d_C_init_41 rfl (lv_at hl 0 rfl) ?_
  refine r_new (k := 3) S hZ hG hS (by decide) rfl (hts _ tw_63) (hts _ tw_64) (hts _ tw_6) h.1 h.2.1 d_C_init_42 (fun a29 g30 H f9 e9 hG hS => ?_)
  have hk := And.intro h.1 h.2.1
  replace h := h.2.2 a29 f9 g30 e9
  refine lv_dup hx hb d_C_init_45 rfl ?_
  refine r_new (k := 1) S hZ hG hS (by decide) rfl (hts _ tw_33) (hts _ tw_65) (hts _ tw_7) h.1 h.2.1 d_C_init_46 (fun a31 g32 H f9 e9 hG hS => ?_)
  have hk := And.intro h.1 h.2.1
  replace h := h.2.2 a31 f9 g32 e9
  refine lv_dup hx hb d_C_init_49 rfl ?_
  refine lv_iconst (v := (-1 : Int32)) hx hb d_C_init_50 (by decide) ?_
  refine lv_iconst (v := (0 : Int32)) hx hb d_C_init_51 (by decide) ?_
  obtain ⟨c33, c34, k1, k2, h⟩ := h
  refine q_callV (run_I (As := [.int ((-1 : Int32)), .int ((0 : Int32))]) (rest := [.ref a31, .ref a29, .ref a29, .ref this]) S hZ hG hS (s_A_init h) tw_68 tw_66 tw_67 tw_7 rfl nk_A_init ⟨Nat.le_of_ble_eq_true rfl, Nat.le_of_ble_eq_true rfl⟩ rfl hl.1 rfl (Nat.le_of_ble_eq_true rfl) d_C_init_52 ⟨k1, k2⟩) hS (fun g35 H locs h47 hG hS => ?_)
  have hk := And.intro k1 k2
  replace h := h47
  refine lv_bipush (v := (16 : Int32)) hx hb d_C_init_55 (by decide) ?_
  obtain ⟨n38, e9, n9, h⟩ := h
  refine r_newa (k := 100) (n := n38) (ty := .int) S hZ hG hS (hts _ tw_88) rfl ⟨by decide, by decide⟩ rfl e9 n9 (de_100 _ 0 _) (by decide) h.1 h.2.1 d_C_init_57 (fun a36 g37 H f9 e9 hG hS => ?_)
  have hk := And.intro h.1 h.2.1
  replace h := h.2.2 a36 f9 g37 e9
  refine lv_iconst (v := (0 : Int32)) hx hb d_C_init_59 (by decide) ?_
  obtain ⟨c39, c40, k1, k2, h⟩ := h
  refine q_callV (run_I (As := [va_rf (some a31), va_rf (some a36), .int ((0 : Int32))]) (rest := [.ref a29, .ref this]) S hZ hG hS (s_N_init h) tw_91 tw_89 tw_90 tw_6 rfl nk_N_init ⟨Nat.le_of_ble_eq_true rfl, Nat.le_of_ble_eq_true rfl⟩ rfl hl.1 rfl (Nat.le_of_ble_eq_true rfl) d_C_init_60 ⟨k1, k2⟩) hS (fun g41 H locs h46 hG hS => ?_)
  have hk := And.intro k1 k2
  replace h := h46
  refine r_putR (f := 23) (v := (some a29)) S hZ hG hS rfl h.1 (hts _ tw_154) (fun _ h9 => h9) (Or.inr ⟨rfl, hnm, rfl⟩) d_C_init_63 (fun g42 H locs e9 hG hS => ?_)
  replace h := h.2 g42 e9
  refine lv_aload_n hx hb d_C_init_66 rfl (lv_at hl 0 rfl) ?_
  refine lv_iconst (v := (0 : Int32)) hx hb d_C_init_67 (by decide) ?_
  refine r_putI (f := 26) S hZ hG hS rfl h.1 (hts _ tw_157) (fun _ h9 => h9) (Or.inl rfl) d_C_init_68 (fun g43 H locs e9 hG hS => ?_)
  replace h := h.2 g43 e9
  refine lv_aload_n hx hb d_C_init_71 rfl (lv_at hl 0 rfl) ?_
  refine lv_iconst (v := (0 : Int32)) hx hb d_C_init_72 (by decide) ?_
  refine r_putI (f := 27) S hZ hG hS rfl h.1 (hts _ tw_158) (fun _ h9 => h9) (Or.inl rfl) d_C_init_73 (fun g44 H locs e9 hG hS => ?_)
  replace h := h.2 g44 e9
  refine lv_aload_n hx hb d_C_init_76 rfl (lv_at hl 0 rfl) ?_
  refine lv_iconst (v := (0 : Int32)) hx hb d_C_init_77 (by decide) ?_
  refine r_putI (f := 28) S hZ hG hS rfl h.1 (hts _ tw_159) (fun _ h9 => h9) (Or.inl rfl) d_C_init_78 (fun g45 H locs e9 hG hS => ?_)
  replace h := h.2 g45 e9
  exact r_vret S hr hlk hG hS h hk.1 hk.2 d_C_init_81
def w_AL_isEmpty (z mi mc ms : Nat) (post : Int32 → Sg → Prop) (g : Sg) (this : Nat) : Prop := (hasI g this 3 ∧ ∀ x11 : Int32, x11 = fI g 3 this → (¬ x11 = 0 → post (0 : Int32) g) ∧ (x11 = 0 → post (1 : Int32) g))
set_option maxHeartbeats 4000000 in
set_option maxRecDepth 100000 in
theorem s_AL_isEmpty {l : Launch} {D : va_G} {cA : Nat → ClassId} {sz z mi mc ms : Nat} {g : Sg} {post : Int32 → Sg → Prop} {this : Nat} (h : w_AL_isEmpty z mi mc ms post g this) : Met l y_AL_isEmpty (Cond.code y_AL_isEmpty b_AL_isEmpty 1 (some FieldType.boolean) :: TBL) ({ frames := 0, cells := mc, slots := ms, locals := 0 } : Room) (Pg D cA sz z mi [.ref this] g) (Qg D cA sz (pI post)) mc ms (oA sz) := by
  refine m_code (lv := [(0, .ref this)]) (by decide +kernel) (Nat.le_of_ble_eq_true rfl) rfl ?_
  intro p e s m below meth c ls S hr hlk hnm hZ hG hS hl
  obtain ⟨hx, hb, hml, hown, hts⟩ := id S
  have hk : 0 ≤ mc ∧ 0 ≤ ms := ⟨Nat.zero_le _, Nat.zero_le _⟩
  refine lv_aload_n hx hb d_AL_isEmpty_0 rfl (lv_at hl 0 rfl) ?_
  refine r_getI (f := 3) S hZ hG rfl h.1 (hts _ tw_50) (fun _ h9 => h9) d_AL_isEmpty_1 (fun x11 e9 => ?_)
  replace h := h.2 x11 e9
  refine lv_if_ne (tgt := 11) hx hb d_AL_isEmpty_4 (by decide) (fun c9 => ?_) (fun c9 => ?_)
  · replace h := h.1 c9
    refine lv_iconst (v := (0 : Int32)) hx hb d_AL_isEmpty_11 (by decide) ?_
    exact r_zret (v := (0 : Int32)) S hr hlk rfl hG hS h hk.1 hk.2 d_AL_isEmpty_12
  · replace h := h.2 c9
    refine lv_iconst (v := (1 : Int32)) hx hb d_AL_isEmpty_7 (by decide) ?_
    refine lv_goto (tgt := 12) hx hb d_AL_isEmpty_8 (by decide) ?_
    exact r_zret (v := (1 : Int32)) S hr hlk rfl hG hS h hk.1 hk.2 d_AL_isEmpty_12
def w_PC_checkIndex (z mi mc ms : Nat) (post : Int32 → Sg → Prop) (g : Sg) (p0 : Int32) (p1 : Int32) (p2 : Option Nat) : Prop := (p0 < 0 → False) ∧ (¬ p0 < 0 → (p0 < p1 → post p0 g) ∧ (¬ p0 < p1 → False))
set_option maxHeartbeats 4000000 in
set_option maxRecDepth 100000 in
theorem s_PC_checkIndex {l : Launch} {D : va_G} {cA : Nat → ClassId} {sz z mi mc ms : Nat} {g : Sg} {post : Int32 → Sg → Prop} {p0 : Int32} {p1 : Int32} {p2 : Option Nat} (h : w_PC_checkIndex z mi mc ms post g p0 p1 p2) : Met l y_PC_checkIndex (Cond.code y_PC_checkIndex b_PC_checkIndex 3 (some FieldType.int) :: TBL) ({ frames := 1, cells := mc, slots := ms, locals := 60 } : Room) (Pg D cA sz z mi [.int p0, .int p1, va_rf p2] g) (Qg D cA sz (pI post)) mc ms (oA sz) := by
  refine m_code (lv := [(0, .int p0), (1, .int p1), (2, va_rf p2)]) (by decide +kernel) (by simp [lg_sl, rf_cat, cat_i, cat_r, cat_l]) (by simp [lv_args, rf_cat, cat_i, cat_r, cat_l]) ?_
  intro p e s m below meth c ls S hr hlk hnm hZ hG hS hl
  obtain ⟨hx, hb, hml, hown, hts⟩ := id S
  have hk : 0 ≤ mc ∧ 0 ≤ ms := ⟨Nat.zero_le _, Nat.zero_le _⟩
  refine lv_iload_n hx hb d_PC_checkIndex_0 rfl (lv_at hl 0 rfl) ?_
  refine lv_if_lt (tgt := 9) hx hb d_PC_checkIndex_1 (by decide) (fun c9 => ?_) (fun c9 => ?_)
  · replace h := h.1 c9
    refine q_aload_n hx hb d_PC_checkIndex_9 rfl (lv_at hl 2 rfl) ?_
    refine lv_iload_n hx hb d_PC_checkIndex_10 rfl (lv_at hl 0 rfl) ?_
    refine lv_iload_n hx hb d_PC_checkIndex_11 rfl (lv_at hl 1 rfl) ?_
    exact h.elim
  · replace h := h.2 c9
    refine lv_iload_n hx hb d_PC_checkIndex_4 rfl (lv_at hl 0 rfl) ?_
    refine lv_iload_n hx hb d_PC_checkIndex_5 rfl (lv_at hl 1 rfl) ?_
    refine lv_icmp_lt (tgt := 16) hx hb d_PC_checkIndex_6 (by decide) (fun c9 => ?_) (fun c9 => ?_)
    · replace h := h.1 c9
      refine lv_iload_n hx hb d_PC_checkIndex_16 rfl (lv_at hl 0 rfl) ?_
      exact r_iret (v := p0) S hr hlk hG hS h hk.1 hk.2 d_PC_checkIndex_17
    · replace h := h.2 c9
      refine q_aload_n hx hb d_PC_checkIndex_9 rfl (lv_at hl 2 rfl) ?_
      refine lv_iload_n hx hb d_PC_checkIndex_10 rfl (lv_at hl 0 rfl) ?_
      refine lv_iload_n hx hb d_PC_checkIndex_11 rfl (lv_at hl 1 rfl) ?_
      exact h.elim
def w_OB_checkIndex (z mi mc ms : Nat) (post : Int32 → Sg → Prop) (g : Sg) (p0 : Int32) (p1 : Int32) : Prop := (∃ c11 c12 : Nat, 0 + c11 ≤ mc ∧ 0 + c12 ≤ ms ∧ w_PC_checkIndex z mi c11 c12 (fun (x14 : Int32) (g13 : Sg) => post x14 g13) g p0 p1 none)
set_option maxHeartbeats 4000000 in
set_option maxRecDepth 100000 in
theorem s_OB_checkIndex {l : Launch} {D : va_G} {cA : Nat → ClassId} {sz z mi mc ms : Nat} {g : Sg} {post : Int32 → Sg → Prop} {p0 : Int32} {p1 : Int32} (h : w_OB_checkIndex z mi mc ms post g p0 p1) : Met l y_OB_checkIndex (Cond.code y_OB_checkIndex b_OB_checkIndex 2 (some FieldType.int) :: TBL) ({ frames := 2, cells := mc, slots := ms, locals := 82 } : Room) (Pg D cA sz z mi [.int p0, .int p1] g) (Qg D cA sz (pI post)) mc ms (oA sz) := by
  refine m_code (lv := [(0, .int p0), (1, .int p1)]) (by decide +kernel) (Nat.le_of_ble_eq_true rfl) rfl ?_
  intro p e s m below meth c ls S hr hlk hnm hZ hG hS hl
  obtain ⟨hx, hb, hml, hown, hts⟩ := id S
  have hk : 0 ≤ mc ∧ 0 ≤ ms := ⟨Nat.zero_le _, Nat.zero_le _⟩
  refine lv_iload_n hx hb d_OB_checkIndex_0 rfl (lv_at hl 0 rfl) ?_
  refine lv_iload_n hx hb d_OB_checkIndex_1 rfl (lv_at hl 1 rfl) ?_
  refine lv_null hx hb d_OB_checkIndex_2 ?_
  obtain ⟨c11, c12, k1, k2, h⟩ := h
  refine q_callI (run_S (As := [.int p0, .int p1, va_rf none]) (rest := []) S hZ hG hS (s_PC_checkIndex h) tw_199 tw_197 tw_198 tw_11 nk_PC_checkIndex ⟨Nat.le_of_ble_eq_true rfl, Nat.le_of_ble_eq_true rfl⟩ rfl hl.1 rfl (by decide) d_OB_checkIndex_3 ⟨k1, k2⟩) hS (fun x14 g13 H locs h15 hG hS => ?_)
  have hk := And.intro k1 k2
  replace h := h15
  exact r_iret (v := x14) S hr hlk hG hS h hk.1 hk.2 d_OB_checkIndex_6
def w_AL_elementData (z mi mc ms : Nat) (post : Option Nat → Sg → Prop) (g : Sg) (this : Nat) (p0 : Int32) : Prop := (hasR g this 2 ∧ ∀ o11 : Option Nat, o11 = fR g 2 this → ∃ a12, o11 = some a12 ∧ (∃ j13 : Nat, inA g a12 106 p0 j13 ∧ ∀ o14 : Option Nat, o14 = aR g a12 j13 → post o14 g))
set_option maxHeartbeats 4000000 in
set_option maxRecDepth 100000 in
theorem s_AL_elementData {l : Launch} {D : va_G} {cA : Nat → ClassId} {sz z mi mc ms : Nat} {g : Sg} {post : Option Nat → Sg → Prop} {this : Nat} {p0 : Int32} (h : w_AL_elementData z mi mc ms post g this p0) : Met l y_AL_elementData (Cond.code y_AL_elementData b_AL_elementData 2 (some (FieldType.object "java/lang/Object")) :: TBL) ({ frames := 0, cells := mc, slots := ms, locals := 0 } : Room) (Pg D cA sz z mi [.ref this, .int p0] g) (Qg D cA sz (pR post)) mc ms (oA sz) := by
  refine m_code (lv := [(0, .ref this), (1, .int p0)]) (by decide +kernel) (Nat.le_of_ble_eq_true rfl) rfl ?_
  intro p e s m below meth c ls S hr hlk hnm hZ hG hS hl
  obtain ⟨hx, hb, hml, hown, hts⟩ := id S
  have hk : 0 ≤ mc ∧ 0 ≤ ms := ⟨Nat.zero_le _, Nat.zero_le _⟩
  refine lv_aload_n hx hb d_AL_elementData_0 rfl (lv_at hl 0 rfl) ?_
  refine r_getR (f := 2) S hZ hG rfl h.1 (hts _ tw_49) (fun _ h9 => h9) d_AL_elementData_1 (fun o11 e9 => ?_)
  replace h := h.2 o11 e9
  refine lv_iload_n hx hb d_AL_elementData_4 rfl (lv_at hl 1 rfl) ?_
  obtain ⟨a12, e9, h⟩ := h
  subst e9
  obtain ⟨j13, h9, h⟩ := h
  refine r_aald (k := 106) S hZ hG h9 (by decide) rfl d_AL_elementData_5 (fun o14 e9 => ?_)
  replace h := h o14 e9
  exact r_aret (o := o14) S hr (Or.inl ⟨_, rfl⟩) hlk hG hS h hk.1 hk.2 d_AL_elementData_6
def w_AL_get (z mi mc ms : Nat) (post : Option Nat → Sg → Prop) (g : Sg) (this : Nat) (p0 : Int32) : Prop := (hasI g this 3 ∧ ∀ x11 : Int32, x11 = fI g 3 this → (∃ c12 c13 : Nat, 0 + c12 ≤ mc ∧ 0 + c13 ≤ ms ∧ w_OB_checkIndex z mi c12 c13 (fun (x15 : Int32) (g14 : Sg) => (isK g14 this [0] ∧ ∃ c16 c17 : Nat, (0 + c12) + c16 ≤ mc ∧ (0 + c13) + c17 ≤ ms ∧ w_AL_elementData z mi c16 c17 (fun (o19 : Option Nat) (g18 : Sg) => post o19 g18) g14 this p0)) g p0 x11))
set_option maxHeartbeats 4000000 in
set_option maxRecDepth 100000 in
theorem s_AL_get {l : Launch} {D : va_G} {cA : Nat → ClassId} {sz z mi mc ms : Nat} {g : Sg} {post : Option Nat → Sg → Prop} {this : Nat} {p0 : Int32} (h : w_AL_get z mi mc ms post g this p0) : Met l y_AL_get (Cond.code y_AL_get b_AL_get 2 (some (FieldType.object "java/lang/Object")) :: TBL) ({ frames := 3, cells := mc, slots := ms, locals := 103 } : Room) (Pg D cA sz z mi [.ref this, .int p0] g) (Qg D cA sz (pR post)) mc ms (oA sz) := by
  refine m_code (lv := [(0, .ref this), (1, .int p0)]) (by decide +kernel) (Nat.le_of_ble_eq_true rfl) rfl ?_
  intro p e s m below meth c ls S hr hlk hnm hZ hG hS hl
  obtain ⟨hx, hb, hml, hown, hts⟩ := id S
  have hk : 0 ≤ mc ∧ 0 ≤ ms := ⟨Nat.zero_le _, Nat.zero_le _⟩
  refine lv_iload_n hx hb d_AL_get_0 rfl (lv_at hl 1 rfl) ?_
  refine lv_aload_n hx hb d_AL_get_1 rfl (lv_at hl 0 rfl) ?_
  refine r_getI (f := 3) S hZ hG rfl h.1 (hts _ tw_50) (fun _ h9 => h9) d_AL_get_2 (fun x11 e9 => ?_)
  replace h := h.2 x11 e9
  obtain ⟨c12, c13, k1, k2, h⟩ := h
  refine q_callI (run_S (As := [.int p0, .int x11]) (rest := []) S hZ hG hS (s_OB_checkIndex h) tw_196 tw_194 tw_195 tw_10 nk_OB_checkIndex ⟨Nat.le_of_ble_eq_true rfl, Nat.le_of_ble_eq_true rfl⟩ rfl hl.1 rfl (by decide) d_AL_get_5 ⟨k1, k2⟩) hS (fun x15 g14 H locs h21 hG hS => ?_)
  have hk := And.intro k1 k2
  replace h := h21
  refine lv_pop hx hb d_AL_get_8 rfl ?_
  refine lv_aload_n hx hb d_AL_get_9 rfl (lv_at hl 0 rfl) ?_
  refine lv_iload_n hx hb d_AL_get_10 rfl (lv_at hl 1 rfl) ?_
  obtain ⟨h9, h⟩ := h
  obtain ⟨c16, c17, k1, k2, h⟩ := h
  obtain ⟨n9, h9⟩ := isK1 h9
  refine q_callR (run_V (As := [.int p0]) (rest := []) S hZ hG hS (s_AL_elementData h) tw_203 tw_200 tw_201 tw_202 tw_4 nk_AL_elementData h9 (by decide) rfl ⟨Nat.le_of_ble_eq_true rfl, Nat.le_of_ble_eq_true rfl⟩ rfl hl.1 rfl (by decide) d_AL_get_11 ⟨k1, k2⟩) hS (fun o19 g18 H locs h20 hG hS => ?_)
  have hk := And.intro k1 k2
  replace h := h20
  exact r_aret (o := o19) S hr (Or.inl ⟨_, rfl⟩) hlk hG hS h hk.1 hk.2 d_AL_get_14
def w_A_latest (z mi mc ms : Nat) (post : Option Nat → Sg → Prop) (g : Sg) (this : Nat) : Prop := (hasR g this 6 ∧ ∀ o11 : Option Nat, o11 = fR g 6 this → ∃ a12, o11 = some a12 ∧ (isK g a12 [0] ∧ ∃ c13 c14 : Nat, 0 + c13 ≤ mc ∧ 0 + c14 ≤ ms ∧ w_AL_isEmpty z mi c13 c14 (fun (x16 : Int32) (g15 : Sg) => (x16 = 0 → (hasR g15 this 6 ∧ ∀ o17 : Option Nat, o17 = fR g15 6 this → (hasR g15 this 6 ∧ ∀ o18 : Option Nat, o18 = fR g15 6 this → ∃ a19, o18 = some a19 ∧ (isK g15 a19 [0] ∧ ∃ c20 c21 : Nat, (0 + c13) + c20 ≤ mc ∧ (0 + c14) + c21 ≤ ms ∧ w_AL_size z mi c20 c21 (fun (x23 : Int32) (g22 : Sg) => ∃ a24, o17 = some a24 ∧ (isK g22 a24 [0] ∧ ∃ c25 c26 : Nat, ((0 + c13) + c20) + c25 ≤ mc ∧ ((0 + c14) + c21) + c26 ≤ ms ∧ w_AL_get z mi c25 c26 (fun (o28 : Option Nat) (g27 : Sg) => ∃ a29, o28 = some a29 ∧ (isK g27 a29 [2, 3] ∧ post (some a29) g27)) g22 a24 (x23 - (1 : Int32)))) g15 a19)))) ∧ (¬ x16 = 0 → post none g15)) g a12))
set_option maxHeartbeats 4000000 in
set_option maxRecDepth 100000 in
theorem s_A_latest {l : Launch} {D : va_G} {cA : Nat → ClassId} {sz z mi mc ms : Nat} {g : Sg} {post : Option Nat → Sg → Prop} {this : Nat} (h : w_A_latest z mi mc ms post g this) : Met l y_A_latest (Cond.code y_A_latest b_A_latest 1 (some (FieldType.object "WeaveCore$Event")) :: TBL) ({ frames := 4, cells := mc, slots := ms, locals := 124 } : Room) (Pg D cA sz z mi [.ref this] g) (Qg D cA sz (pR post)) mc ms (oA sz) := by
  refine m_code (lv := [(0, .ref this)]) (by decide +kernel) (Nat.le_of_ble_eq_true rfl) rfl ?_
  intro p e s m below meth c ls S hr hlk hnm hZ hG hS hl
  obtain ⟨hx, hb, hml, hown, hts⟩ := id S
  have hk : 0 ≤ mc ∧ 0 ≤ ms := ⟨Nat.zero_le _, Nat.zero_le _⟩
  refine lv_aload_n hx hb d_A_latest_0 rfl (lv_at hl 0 rfl) ?_
  refine r_getR (f := 6) S hZ hG rfl h.1 (hts _ tw_79) (fun _ h9 => h9) d_A_latest_1 (fun o11 e9 => ?_)
  replace h := h.2 o11 e9
  obtain ⟨a12, e9, h⟩ := h
  subst e9
  obtain ⟨h9, h⟩ := h
  obtain ⟨c13, c14, k1, k2, h⟩ := h
  obtain ⟨n9, h9⟩ := isK1 h9
  refine q_callI (run_V (As := []) (rest := []) S hZ hG hS (s_AL_isEmpty h) tw_188 tw_185 tw_186 tw_187 tw_4 nk_AL_isEmpty h9 (by decide) rfl ⟨Nat.le_of_ble_eq_true rfl, Nat.le_of_ble_eq_true rfl⟩ rfl hl.1 rfl (by decide) d_A_latest_4 ⟨k1, k2⟩) hS (fun x16 g15 H locs h32 hG hS => ?_)
  have hk := And.intro k1 k2
  replace h := h32
  refine lv_if_eq (tgt := 14) hx hb d_A_latest_7 (by decide) (fun c9 => ?_) (fun c9 => ?_)
  · replace h := h.1 c9
    refine lv_aload_n hx hb d_A_latest_14 rfl (lv_at hl 0 rfl) ?_
    refine r_getR (f := 6) S hZ hG rfl h.1 (hts _ tw_79) (fun _ h9 => h9) d_A_latest_15 (fun o17 e9 => ?_)
    replace h := h.2 o17 e9
    refine lv_aload_n hx hb d_A_latest_18 rfl (lv_at hl 0 rfl) ?_
    refine r_getR (f := 6) S hZ hG rfl h.1 (hts _ tw_79) (fun _ h9 => h9) d_A_latest_19 (fun o18 e9 => ?_)
    replace h := h.2 o18 e9
    obtain ⟨a19, e9, h⟩ := h
    subst e9
    obtain ⟨h9, h⟩ := h
    obtain ⟨c20, c21, k1, k2, h⟩ := h
    obtain ⟨n9, h9⟩ := isK1 h9
    refine q_callI (run_V (As := []) (rest := [va_rf o17]) S hZ hG hS (s_AL_size h) tw_99 tw_189 tw_97 tw_98 tw_4 nk_AL_size h9 (by decide) rfl ⟨Nat.le_of_ble_eq_true rfl, Nat.le_of_ble_eq_true rfl⟩ rfl hl.1 rfl (by simp [rf_cat, cat_i, cat_r, cat_l]) d_A_latest_22 ⟨k1, k2⟩) hS (fun x23 g22 H locs h31 hG hS => ?_)
    have hk := And.intro k1 k2
    replace h := h31
    refine lv_iconst (v := (1 : Int32)) hx hb d_A_latest_25 (by decide) ?_
    refine lv_isub hx hb d_A_latest_26 ?_
    obtain ⟨a24, e9, h⟩ := h
    subst e9
    obtain ⟨h9, h⟩ := h
    obtain ⟨c25, c26, k1, k2, h⟩ := h
    obtain ⟨n9, h9⟩ := isK1 h9
    refine q_callR (run_V (As := [.int (x23 - (1 : Int32))]) (rest := []) S hZ hG hS (s_AL_get h) tw_193 tw_190 tw_191 tw_192 tw_4 nk_AL_get h9 (by decide) rfl ⟨Nat.le_of_ble_eq_true rfl, Nat.le_of_ble_eq_true rfl⟩ rfl hl.1 rfl (by decide) d_A_latest_27 ⟨k1, k2⟩) hS (fun o28 g27 H locs h30 hG hS => ?_)
    have hk := And.intro k1 k2
    replace h := h30
    obtain ⟨a29, e9, h⟩ := h
    subst e9
    obtain ⟨h9, h⟩ := h
    refine r_castE S hZ hG tw_204 h9 d_A_latest_30 ?_
    exact r_aret (o := (some a29)) S hr (Or.inl ⟨_, rfl⟩) hlk hG hS h hk.1 hk.2 d_A_latest_33
  · replace h := h.2 c9
    refine lv_null hx hb d_A_latest_10 ?_
    refine lv_goto (tgt := 33) hx hb d_A_latest_11 (by decide) ?_
    exact r_aret (o := none) S hr (Or.inl ⟨_, rfl⟩) hlk hG hS h hk.1 hk.2 d_A_latest_33
def w_E_isIn (z mi mc ms : Nat) (post : Int32 → Sg → Prop) (g : Sg) (this : Nat) (p0 : Option Nat) : Prop := (hasI g this 8 ∧ ∀ x11 : Int32, x11 = fI g 8 this → (hasR g this 7 ∧ ∀ o12 : Option Nat, o12 = fR g 7 this → ∃ a13, o12 = some a13 ∧ (hasI g a13 5 ∧ ∀ x14 : Int32, x14 = fI g 5 a13 → ∃ a15, p0 = some a15 ∧ (∃ j17 : Nat, inA g a15 100 x14 j17 ∧ ∀ x18 : Int32, x18 = aI g a15 j17 → (x18 ≤ x11 → post (0 : Int32) g) ∧ (¬ x18 ≤ x11 → post (1 : Int32) g)))))
set_option maxHeartbeats 4000000 in
set_option maxRecDepth 100000 in
theorem s_E_isIn {l : Launch} {D : va_G} {cA : Nat → ClassId} {sz z mi mc ms : Nat} {g : Sg} {post : Int32 → Sg → Prop} {this : Nat} {p0 : Option Nat} (h : w_E_isIn z mi mc ms post g this p0) : Met l y_E_isIn (Cond.code y_E_isIn b_E_isIn 2 (some FieldType.boolean) :: TBL) ({ frames := 0, cells := mc, slots := ms, locals := 0 } : Room) (Pg D cA sz z mi [.ref this, va_rf p0] g) (Qg D cA sz (pI post)) mc ms (oA sz) := by
  refine m_code (lv := [(0, .ref this), (1, va_rf p0)]) (by decide +kernel) (by simp [lg_sl, rf_cat, cat_i, cat_r, cat_l]) (by simp [lv_args, rf_cat, cat_i, cat_r, cat_l]) ?_
  intro p e s m below meth c ls S hr hlk hnm hZ hG hS hl
  obtain ⟨hx, hb, hml, hown, hts⟩ := id S
  have hk : 0 ≤ mc ∧ 0 ≤ ms := ⟨Nat.zero_le _, Nat.zero_le _⟩
  refine lv_aload_n hx hb d_E_isIn_0 rfl (lv_at hl 0 rfl) ?_
  refine r_getI (f := 8) S hZ hG rfl h.1 (hts _ tw_117) (fun _ h9 => h9) d_E_isIn_1 (fun x11 e9 => ?_)
  replace h := h.2 x11 e9
  refine q_aload_n hx hb d_E_isIn_4 rfl (lv_at hl 1 rfl) ?_
  refine lv_aload_n hx hb d_E_isIn_5 rfl (lv_at hl 0 rfl) ?_
  refine r_getR (f := 7) S hZ hG rfl h.1 (hts _ tw_113) (fun _ h9 => h9) d_E_isIn_6 (fun o12 e9 => ?_)
  replace h := h.2 o12 e9
  obtain ⟨a13, e9, h⟩ := h
  subst e9
  refine r_getI (f := 5) S hZ hG rfl h.1 (hts _ tw_76) (fun _ h9 => h9) d_E_isIn_9 (fun x14 e9 => ?_)
  replace h := h.2 x14 e9
  obtain ⟨a15, e9, h⟩ := h
  subst e9
  have hl16 : lv_has ls 2 [(0, .ref this), (1, .ref a15)] := hl
  obtain ⟨j17, h9, h⟩ := h
  refine r_iald S hZ hG h9 d_E_isIn_12 (fun x18 e9 => ?_)
  replace h := h x18 e9
  refine lv_icmp_ge (tgt := 20) hx hb d_E_isIn_13 (by decide) (fun c9 => ?_) (fun c9 => ?_)
  · replace h := h.1 c9
    refine lv_iconst (v := (0 : Int32)) hx hb d_E_isIn_20 (by decide) ?_
    exact r_zret (v := (0 : Int32)) S hr hlk rfl hG hS h hk.1 hk.2 d_E_isIn_21
  · replace h := h.2 c9
    refine lv_iconst (v := (1 : Int32)) hx hb d_E_isIn_16 (by decide) ?_
    refine lv_goto (tgt := 21) hx hb d_E_isIn_17 (by decide) ?_
    exact r_zret (v := (1 : Int32)) S hr hlk rfl hG hS h hk.1 hk.2 d_E_isIn_21
def w_E_isAfter (z mi mc ms : Nat) (post : Int32 → Sg → Prop) (g : Sg) (this : Nat) (p0 : Option Nat) : Prop := ∃ a11, p0 = some a11 ∧ (hasR g a11 7 ∧ ∀ o13 : Option Nat, o13 = fR g 7 a11 → (hasR g this 7 ∧ ∀ o14 : Option Nat, o14 = fR g 7 this → (¬ o13 = o14 → (hasR g this 9 ∧ ∀ o15 : Option Nat, o15 = fR g 9 this → (isK g a11 [2, 3] ∧ ∃ c16 c17 : Nat, 0 + c16 ≤ mc ∧ 0 + c17 ≤ ms ∧ w_E_isIn z mi c16 c17 (fun (x19 : Int32) (g18 : Sg) => ((x19 = 0 ∨ x19 = 1) ∧ post x19 g18)) g a11 o15))) ∧ (o13 = o14 → (hasI g a11 8 ∧ ∀ x21 : Int32, x21 = fI g 8 a11 → (hasI g this 8 ∧ ∀ x22 : Int32, x22 = fI g 8 this → (x22 ≤ x21 → post (0 : Int32) g) ∧ (¬ x22 ≤ x21 → post (1 : Int32) g))))))
set_option maxHeartbeats 4000000 in
set_option maxRecDepth 100000 in
theorem s_E_isAfter {l : Launch} {D : va_G} {cA : Nat → ClassId} {sz z mi mc ms : Nat} {g : Sg} {post : Int32 → Sg → Prop} {this : Nat} {p0 : Option Nat} (h : w_E_isAfter z mi mc ms post g this p0) : Met l y_E_isAfter (Cond.code y_E_isAfter b_E_isAfter 2 (some FieldType.boolean) :: TBL) ({ frames := 1, cells := mc, slots := ms, locals := 21 } : Room) (Pg D cA sz z mi [.ref this, va_rf p0] g) (Qg D cA sz (pI post)) mc ms (oA sz) := by
  refine m_code (lv := [(0, .ref this), (1, va_rf p0)]) (by decide +kernel) (by simp [lg_sl, rf_cat, cat_i, cat_r, cat_l]) (by simp [lv_args, rf_cat, cat_i, cat_r, cat_l]) ?_
  intro p e s m below meth c ls S hr hlk hnm hZ hG hS hl
  obtain ⟨hx, hb, hml, hown, hts⟩ := id S
  have hk : 0 ≤ mc ∧ 0 ≤ ms := ⟨Nat.zero_le _, Nat.zero_le _⟩
  refine q_aload_n hx hb d_E_isAfter_0 rfl (lv_at hl 1 rfl) ?_
  obtain ⟨a11, e9, h⟩ := h
  subst e9
  have hl12 : lv_has ls 2 [(0, .ref this), (1, .ref a11)] := hl
  refine r_getR (f := 7) S hZ hG rfl h.1 (hts _ tw_113) (fun _ h9 => h9) d_E_isAfter_1 (fun o13 e9 => ?_)
  replace h := h.2 o13 e9
  refine lv_aload_n hx hb d_E_isAfter_4 rfl (lv_at hl12 0 rfl) ?_
  refine r_getR (f := 7) S hZ hG rfl h.1 (hts _ tw_113) (fun _ h9 => h9) d_E_isAfter_5 (fun o14 e9 => ?_)
  replace h := h.2 o14 e9
  refine lv_acmp_ne (rx := o13) (ry := o14) (tgt := 30) hx hb d_E_isAfter_8 (by decide) (fun c9 => ?_) (fun c9 => ?_)
  · replace h := h.1 c9
    refine lv_aload_n hx hb d_E_isAfter_30 rfl (lv_at hl12 1 rfl) ?_
    refine lv_aload_n hx hb d_E_isAfter_31 rfl (lv_at hl12 0 rfl) ?_
    refine r_getR (f := 9) S hZ hG rfl h.1 (hts _ tw_120) (fun _ h9 => h9) d_E_isAfter_32 (fun o15 e9 => ?_)
    replace h := h.2 o15 e9
    obtain ⟨h9, h⟩ := h
    obtain ⟨c16, c17, k1, k2, h⟩ := h
    refine q_callI (run_E (As := [va_rf o15]) (rest := []) S hZ hG hS (s_E_isIn h) tw_220 tw_215 tw_217 tw_218 tw_219 tw_216 tw_5 rfl nk_E_isIn h9 ⟨Nat.le_of_ble_eq_true rfl, Nat.le_of_ble_eq_true rfl⟩ rfl hl12.1 rfl (by decide) d_E_isAfter_35 ⟨k1, k2⟩) hS (fun x19 g18 H locs h20 hG hS => ?_)
    have hk := And.intro k1 k2
    replace h := h20
    exact r_zret (v := x19) S hr hlk (nz h.1) hG hS h.2 hk.1 hk.2 d_E_isAfter_38
  · replace h := h.2 c9
    refine lv_aload_n hx hb d_E_isAfter_11 rfl (lv_at hl12 1 rfl) ?_
    refine r_getI (f := 8) S hZ hG rfl h.1 (hts _ tw_117) (fun _ h9 => h9) d_E_isAfter_12 (fun x21 e9 => ?_)
    replace h := h.2 x21 e9
    refine lv_aload_n hx hb d_E_isAfter_15 rfl (lv_at hl12 0 rfl) ?_
    refine r_getI (f := 8) S hZ hG rfl h.1 (hts _ tw_117) (fun _ h9 => h9) d_E_isAfter_16 (fun x22 e9 => ?_)
    replace h := h.2 x22 e9
    refine lv_icmp_ge (tgt := 26) hx hb d_E_isAfter_19 (by decide) (fun c9 => ?_) (fun c9 => ?_)
    · replace h := h.1 c9
      refine lv_iconst (v := (0 : Int32)) hx hb d_E_isAfter_26 (by decide) ?_
      refine lv_goto (tgt := 38) hx hb d_E_isAfter_27 (by decide) ?_
      exact r_zret (v := (0 : Int32)) S hr hlk rfl hG hS h hk.1 hk.2 d_E_isAfter_38
    · replace h := h.2 c9
      refine lv_iconst (v := (1 : Int32)) hx hb d_E_isAfter_22 (by decide) ?_
      refine lv_goto (tgt := 38) hx hb d_E_isAfter_23 (by decide) ?_
      exact r_zret (v := (1 : Int32)) S hr hlk rfl hG hS h hk.1 hk.2 d_E_isAfter_38
def w_C_hasFollower_2 (z mi mc ms : Nat) (post : Int32 → Sg → Prop) : Nat → Nat → Nat → Sg → Nat → Option Nat → Int32 → Prop
  | 0 => fun _ _ _ _ _ _ => False
  | n + 1 => fun kc ks g this v1 v2 => (hasI g this 26 ∧ ∀ x12 : Int32, x12 = fI g 26 this → (x12 ≤ v2 → post (0 : Int32) g) ∧ (¬ x12 ≤ v2 → (hasR g this 21 ∧ ∀ o13 : Option Nat, o13 = fR g 21 this → ∃ a14, o13 = some a14 ∧ (∃ j15 : Nat, inA g a14 104 v2 j15 ∧ ∀ o16 : Option Nat, o16 = aR g a14 j15 → ∃ a17, o16 = some a17 ∧ (isK g a17 [1] ∧ ∃ c18 c19 : Nat, kc + c18 ≤ mc ∧ ks + c19 ≤ ms ∧ w_A_latest z mi c18 c19 (fun (o21 : Option Nat) (g20 : Sg) => (o21 = none → w_C_hasFollower_2 z mi mc ms post n (kc + c18) (ks + c19) g20 this v1 (v2 + (1 : Int32))) ∧ (∀ a23, o21 = some a23 → (isK g20 a23 [2, 3] ∧ ∃ c27 c28 : Nat, (kc + c18) + c27 ≤ mc ∧ (ks + c19) + c28 ≤ ms ∧ w_E_isAfter z mi c27 c28 (fun (x30 : Int32) (g29 : Sg) => (x30 = 0 → w_C_hasFollower_2 z mi mc ms post n ((kc + c18) + c27) ((ks + c19) + c28) g29 this v1 (v2 + (1 : Int32))) ∧ (¬ x30 = 0 → post (1 : Int32) g29)) g20 a23 v1))) g a17)))))
set_option maxHeartbeats 4000000 in
set_option maxRecDepth 100000 in
theorem s_C_hasFollower_2 {p : Program} {l : Launch} {e : Env} {s : State} {m : MethodId} {args : Array Value} {below : List Frame} {meth : Method} {c : Code} {D : va_G} {cA : Nat → ClassId} {sz z mi mc ms : Nat} {post : Int32 → Sg → Prop} (S : CallFix p m c b_C_hasFollower 4 s args TBL "WeaveCore") (hZ : Ws D cA sz z mi s) (hr : meth.sig.returnType = (some FieldType.boolean)) (hlk : meth.locks = false) :
    ∀ n : Nat, ∀ (kc ks : Nat) (g : Sg) (this : Nat) (v1 : Option Nat) (v2 : Int32) (H : Heap) (locs : List Loc) (ls : Array Slot), kc ≤ mc ∧ ks ≤ ms → w_C_hasFollower_2 z mi mc ms post n kc ks g this v1 v2 → WP D cA sz g H → va_S (oA sz) s.heap H locs → lv_has ls 4 [(0, .ref this), (1, va_rf v1), (2, .int v2)] → W p l e ({ frames := 5, cells := mc, slots := ms, locals := 144 } : Room) s m args below meth c H locs kc ks (MQ below (Qg D cA sz (pI post)) args s mc ms (oA sz)) (F0 m 2 ls []) := by
  obtain ⟨hx, hb, hml, hown, hts⟩ := id S
  intro n
  induction n with
  | zero =>
    intro kc ks g this v1 v2 H locs ls hk h hG hS hl
    exact h.elim
  | succ n ih =>
    intro kc ks g this v1 v2 H locs ls hk h hG hS hl
    refine lv_iload_n hx hb d_C_hasFollower_2 rfl (lv_at hl 2 rfl) ?_
    refine lv_aload_n hx hb d_C_hasFollower_3 rfl (lv_at hl 0 rfl) ?_
    refine r_getI (f := 26) S hZ hG rfl h.1 (hts _ tw_157) (fun _ h9 => h9) d_C_hasFollower_4 (fun x12 e9 => ?_)
    replace h := h.2 x12 e9
    refine lv_icmp_ge (tgt := 40) hx hb d_C_hasFollower_7 (by decide) (fun c9 => ?_) (fun c9 => ?_)
    · replace h := h.1 c9
      refine lv_iconst (v := (0 : Int32)) hx hb d_C_hasFollower_40 (by decide) ?_
      exact r_zret (v := (0 : Int32)) S hr hlk rfl hG hS h hk.1 hk.2 d_C_hasFollower_41
    · replace h := h.2 c9
      refine lv_aload_n hx hb d_C_hasFollower_10 rfl (lv_at hl 0 rfl) ?_
      refine r_getR (f := 21) S hZ hG rfl h.1 (hts _ tw_152) (fun _ h9 => h9) d_C_hasFollower_11 (fun o13 e9 => ?_)
      replace h := h.2 o13 e9
      refine lv_iload_n hx hb d_C_hasFollower_14 rfl (lv_at hl 2 rfl) ?_
      obtain ⟨a14, e9, h⟩ := h
      subst e9
      obtain ⟨j15, h9, h⟩ := h
      refine r_aald (k := 104) S hZ hG h9 (by decide) rfl d_C_hasFollower_15 (fun o16 e9 => ?_)
      replace h := h o16 e9
      obtain ⟨a17, e9, h⟩ := h
      subst e9
      obtain ⟨h9, h⟩ := h
      obtain ⟨c18, c19, k1, k2, h⟩ := h
      obtain ⟨n9, h9⟩ := isK1 h9
      refine q_callR (run_V (As := []) (rest := []) S hZ hG hS (s_A_latest h) tw_184 tw_181 tw_182 tw_183 tw_7 nk_A_latest h9 (by decide) rfl ⟨Nat.le_of_ble_eq_true rfl, Nat.le_of_ble_eq_true rfl⟩ rfl hl.1 rfl (by decide) d_C_hasFollower_16 ⟨k1, k2⟩) hS (fun o21 g20 H locs h33 hG hS => ?_)
      have hk := And.intro k1 k2
      replace h := h33
      refine q_astore_n (o := o21) (lv' := [(3, va_rf o21), (0, .ref this), (1, va_rf v1), (2, .int v2)]) hx hb d_C_hasFollower_19 rfl hl (by decide) (.n (.k 0 rfl (by decide) (by decide) (.k 1 rfl (by decide) (by decide) (.c 2 rfl (by decide) rfl .e)))) (fun ls22 hl22 => ?_)
      refine q_aload_n hx hb d_C_hasFollower_20 rfl (lv_at hl22 0 rfl) ?_
      refine q_ifnull (tgt := 34) hx hb d_C_hasFollower_21 (by decide) (fun e9 => ?_) (fun a23 e9 => ?_)
      · replace h := h.1 e9
        subst e9
        have hl24 : lv_has ls22 4 [(3, .null), (0, .ref this), (1, va_rf v1), (2, .int v2)] := hl22
        refine q_iinc (k := 3) (v := v2 + (1 : Int32)) (lv' := [(2, .int (v2 + (1 : Int32))), (3, .null), (0, .ref this), (1, va_rf v1)]) hx hb d_C_hasFollower_34 hl24 rfl rfl (by decide) (.n (.k 0 rfl (by decide) (by decide) (.k 1 rfl (by decide) (by decide) (.c 2 rfl (by decide) (rf_cat _) .e)))) (fun ls26 hl26 => ?_)
        refine lv_goto (tgt := 2) hx hb d_C_hasFollower_37 (by decide) ?_
        exact ih _ _ _ _ _ _ _ _ _ hk h hG hS (lv_sub hl26 [2, 3, 0] rfl)
      · replace h := h.2 a23 e9
        subst e9
        have hl25 : lv_has ls22 4 [(3, .ref a23), (0, .ref this), (1, va_rf v1), (2, .int v2)] := hl22
        refine lv_aload_n hx hb d_C_hasFollower_24 rfl (lv_at hl25 0 rfl) ?_
        refine q_aload_n hx hb d_C_hasFollower_25 rfl (lv_at hl25 2 rfl) ?_
        obtain ⟨h9, h⟩ := h
        obtain ⟨c27, c28, k1, k2, h⟩ := h
        refine q_callI (run_E (As := [va_rf v1]) (rest := []) S hZ hG hS (s_E_isAfter h) tw_214 tw_209 tw_211 tw_212 tw_213 tw_210 tw_5 rfl nk_E_isAfter h9 ⟨Nat.le_of_ble_eq_true rfl, Nat.le_of_ble_eq_true rfl⟩ rfl hl25.1 rfl (by decide) d_C_hasFollower_26 ⟨k1, k2⟩) hS (fun x30 g29 H locs h32 hG hS => ?_)
        have hk := And.intro k1 k2
        replace h := h32
        refine lv_if_eq (tgt := 34) hx hb d_C_hasFollower_29 (by decide) (fun c9 => ?_) (fun c9 => ?_)
        · replace h := h.1 c9
          refine q_iinc (k := 3) (v := v2 + (1 : Int32)) (lv' := [(2, .int (v2 + (1 : Int32))), (3, .ref a23), (0, .ref this), (1, va_rf v1)]) hx hb d_C_hasFollower_34 hl25 rfl rfl (by decide) (.n (.k 0 rfl (by decide) (by decide) (.k 1 rfl (by decide) (by decide) (.c 2 rfl (by decide) (rf_cat _) .e)))) (fun ls31 hl31 => ?_)
          refine lv_goto (tgt := 2) hx hb d_C_hasFollower_37 (by decide) ?_
          exact ih _ _ _ _ _ _ _ _ _ hk h hG hS (lv_sub hl31 [2, 3, 0] rfl)
        · replace h := h.2 c9
          refine lv_iconst (v := (1 : Int32)) hx hb d_C_hasFollower_32 (by decide) ?_
          exact r_zret (v := (1 : Int32)) S hr hlk rfl hG hS h hk.1 hk.2 d_C_hasFollower_33
def w_C_hasFollower (z mi mc ms : Nat) (post : Int32 → Sg → Prop) (g : Sg) (this : Nat) (p0 : Option Nat) : Prop := (∃ n34 : Nat, w_C_hasFollower_2 z mi mc ms post n34 0 0 g this p0 (0 : Int32))
set_option maxHeartbeats 4000000 in
set_option maxRecDepth 100000 in
theorem s_C_hasFollower {l : Launch} {D : va_G} {cA : Nat → ClassId} {sz z mi mc ms : Nat} {g : Sg} {post : Int32 → Sg → Prop} {this : Nat} {p0 : Option Nat} (h : w_C_hasFollower z mi mc ms post g this p0) : Met l y_C_hasFollower (Cond.code y_C_hasFollower b_C_hasFollower 4 (some FieldType.boolean) :: TBL) ({ frames := 5, cells := mc, slots := ms, locals := 144 } : Room) (Pg D cA sz z mi [.ref this, va_rf p0] g) (Qg D cA sz (pI post)) mc ms (oA sz) := by
  refine m_code (lv := [(0, .ref this), (1, va_rf p0)]) (by decide +kernel) (by simp [lg_sl, rf_cat, cat_i, cat_r, cat_l]) (by simp [lv_args, rf_cat, cat_i, cat_r, cat_l]) ?_
  intro p e s m below meth c ls S hr hlk hnm hZ hG hS hl
  obtain ⟨hx, hb, hml, hown, hts⟩ := id S
  have hk : 0 ≤ mc ∧ 0 ≤ ms := ⟨Nat.zero_le _, Nat.zero_le _⟩
  refine lv_iconst (v := (0 : Int32)) hx hb d_C_hasFollower_0 (by decide) ?_
  refine q_istore_n (lv' := [(2, .int ((0 : Int32))), (0, .ref this), (1, va_rf p0)]) hx hb d_C_hasFollower_1 rfl hl (by decide) (.n (.k 0 rfl (by decide) (by decide) (.c 1 rfl (by decide) (rf_cat _) .e))) (fun ls11 hl11 => ?_)
  obtain ⟨n34, h⟩ := h
  exact s_C_hasFollower_2 S hZ hr hlk n34 _ _ _ _ _ _ _ _ _ hk h hG hS (lv_sub hl11 [1, 2, 0] rfl)
def w_C_enlist (z mi mc ms : Nat) (post : Sg → Prop) (g : Sg) (this : Nat) (p0 : Option Nat) : Prop := (hasI g this 27 ∧ ∀ x11 : Int32, x11 = fI g 27 this → ((16 : Int32) ≤ x11 → post g) ∧ (¬ (16 : Int32) ≤ x11 → (hasR g this 24 ∧ ∀ o12 : Option Nat, o12 = fR g 24 this → (hasI g this 27 ∧ ∀ x13 : Int32, x13 = fI g 27 this → ∃ a14, o12 = some a14 ∧ ∃ a17, p0 = some a17 ∧ (∃ j15 : Nat, inA g a14 105 x13 j15 ∧ isK g a17 [2, 3] ∧ ∀ g16 : Sg, g16 = sR g a14 j15 (some a17) → (hasI g16 this 27 ∧ ∀ x19 : Int32, x19 = fI g16 27 this → (hasI g16 this 27 ∧ ∀ g20 : Sg, g20 = wI g16 27 this (x19 + (1 : Int32)) → post g20)))))))
set_option maxHeartbeats 4000000 in
set_option maxRecDepth 100000 in
theorem s_C_enlist {l : Launch} {D : va_G} {cA : Nat → ClassId} {sz z mi mc ms : Nat} {g : Sg} {post : Sg → Prop} {this : Nat} {p0 : Option Nat} (h : w_C_enlist z mi mc ms post g this p0) : Met l y_C_enlist (Cond.code y_C_enlist b_C_enlist 2 none :: TBL) ({ frames := 0, cells := mc, slots := ms, locals := 0 } : Room) (Pg D cA sz z mi [.ref this, va_rf p0] g) (Qg D cA sz (pV post)) mc ms (oA sz) := by
  refine m_code (lv := [(0, .ref this), (1, va_rf p0)]) (by decide +kernel) (by simp [lg_sl, rf_cat, cat_i, cat_r, cat_l]) (by simp [lv_args, rf_cat, cat_i, cat_r, cat_l]) ?_
  intro p e s m below meth c ls S hr hlk hnm hZ hG hS hl
  obtain ⟨hx, hb, hml, hown, hts⟩ := id S
  have hk : 0 ≤ mc ∧ 0 ≤ ms := ⟨Nat.zero_le _, Nat.zero_le _⟩
  refine lv_aload_n hx hb d_C_enlist_0 rfl (lv_at hl 0 rfl) ?_
  refine r_getI (f := 27) S hZ hG rfl h.1 (hts _ tw_158) (fun _ h9 => h9) d_C_enlist_1 (fun x11 e9 => ?_)
  replace h := h.2 x11 e9
  refine lv_bipush (v := (16 : Int32)) hx hb d_C_enlist_4 (by decide) ?_
  refine lv_icmp_ge (tgt := 29) hx hb d_C_enlist_6 (by decide) (fun c9 => ?_) (fun c9 => ?_)
  · replace h := h.1 c9
    exact r_vret S hr hlk hG hS h hk.1 hk.2 d_C_enlist_29
  · replace h := h.2 c9
    refine lv_aload_n hx hb d_C_enlist_9 rfl (lv_at hl 0 rfl) ?_
    refine r_getR (f := 24) S hZ hG rfl h.1 (hts _ tw_155) (fun _ h9 => h9) d_C_enlist_10 (fun o12 e9 => ?_)
    replace h := h.2 o12 e9
    refine lv_aload_n hx hb d_C_enlist_13 rfl (lv_at hl 0 rfl) ?_
    refine r_getI (f := 27) S hZ hG rfl h.1 (hts _ tw_158) (fun _ h9 => h9) d_C_enlist_14 (fun x13 e9 => ?_)
    replace h := h.2 x13 e9
    refine q_aload_n hx hb d_C_enlist_17 rfl (lv_at hl 1 rfl) ?_
    obtain ⟨a14, e9, h⟩ := h
    subst e9
    obtain ⟨a17, e9, h⟩ := h
    subst e9
    have hl18 : lv_has ls 2 [(0, .ref this), (1, .ref a17)] := hl
    obtain ⟨j15, h9, h8, h⟩ := h
    refine r_aast105 S hZ hG hS h9 h8 d_C_enlist_18 (fun g16 H locs e9 hG hS => ?_)
    replace h := h g16 e9
    refine lv_aload_n hx hb d_C_enlist_19 rfl (lv_at hl18 0 rfl) ?_
    refine lv_dup hx hb d_C_enlist_20 rfl ?_
    refine r_getI (f := 27) S hZ hG rfl h.1 (hts _ tw_158) (fun _ h9 => h9) d_C_enlist_21 (fun x19 e9 => ?_)
    replace h := h.2 x19 e9
    refine lv_iconst (v := (1 : Int32)) hx hb d_C_enlist_24 (by decide) ?_
    refine lv_iadd hx hb d_C_enlist_25 ?_
    refine r_putI (f := 27) S hZ hG hS rfl h.1 (hts _ tw_158) (fun _ h9 => h9) (Or.inl rfl) d_C_enlist_26 (fun g20 H locs e9 hG hS => ?_)
    replace h := h.2 g20 e9
    exact r_vret S hr hlk hG hS h hk.1 hk.2 d_C_enlist_29
def w_C_heads_7 (z mi mc ms : Nat) (post : Int32 → Sg → Prop) : Nat → Nat → Nat → Sg → Nat → Int32 → Prop
  | 0 => fun _ _ _ _ _ => False
  | n + 1 => fun kc ks g this v1 => (hasI g this 26 ∧ ∀ x13 : Int32, x13 = fI g 26 this → (x13 ≤ v1 → (hasI g this 27 ∧ ∀ x14 : Int32, x14 = fI g 27 this → post x14 g)) ∧ (¬ x13 ≤ v1 → (hasR g this 21 ∧ ∀ o15 : Option Nat, o15 = fR g 21 this → ∃ a16, o15 = some a16 ∧ (∃ j17 : Nat, inA g a16 104 v1 j17 ∧ ∀ o18 : Option Nat, o18 = aR g a16 j17 → ∃ a19, o18 = some a19 ∧ (isK g a19 [1] ∧ ∃ c20 c21 : Nat, kc + c20 ≤ mc ∧ ks + c21 ≤ ms ∧ w_A_latest z mi c20 c21 (fun (o23 : Option Nat) (g22 : Sg) => (o23 = none → w_C_heads_7 z mi mc ms post n (kc + c20) (ks + c21) g22 this (v1 + (1 : Int32))) ∧ (∀ a25, o23 = some a25 → (isK g22 this [4] ∧ ∃ c29 c30 : Nat, (kc + c20) + c29 ≤ mc ∧ (ks + c21) + c30 ≤ ms ∧ w_C_hasFollower z mi c29 c30 (fun (x32 : Int32) (g31 : Sg) => (¬ x32 = 0 → w_C_heads_7 z mi mc ms post n ((kc + c20) + c29) ((ks + c21) + c30) g31 this (v1 + (1 : Int32))) ∧ (x32 = 0 → (isK g31 this [4] ∧ ∃ c34 c35 : Nat, ((kc + c20) + c29) + c34 ≤ mc ∧ ((ks + c21) + c30) + c35 ≤ ms ∧ w_C_enlist z mi c34 c35 (fun (g36 : Sg) => w_C_heads_7 z mi mc ms post n (((kc + c20) + c29) + c34) (((ks + c21) + c30) + c35) g36 this (v1 + (1 : Int32))) g31 this (some a25)))) g22 this (some a25)))) g a19)))))
set_option maxHeartbeats 4000000 in
set_option maxRecDepth 100000 in
theorem s_C_heads_7 {p : Program} {l : Launch} {e : Env} {s : State} {m : MethodId} {args : Array Value} {below : List Frame} {meth : Method} {c : Code} {D : va_G} {cA : Nat → ClassId} {sz z mi mc ms : Nat} {post : Int32 → Sg → Prop} (S : CallFix p m c b_C_heads 3 s args TBL "WeaveCore") (hZ : Ws D cA sz z mi s) (hr : meth.sig.returnType = (some FieldType.int)) (hlk : meth.locks = false) :
    ∀ n : Nat, ∀ (kc ks : Nat) (g : Sg) (this : Nat) (v1 : Int32) (H : Heap) (locs : List Loc) (ls : Array Slot), kc ≤ mc ∧ ks ≤ ms → w_C_heads_7 z mi mc ms post n kc ks g this v1 → WP D cA sz g H → va_S (oA sz) s.heap H locs → lv_has ls 3 [(0, .ref this), (1, .int v1)] → W p l e ({ frames := 6, cells := mc, slots := ms, locals := 167 } : Room) s m args below meth c H locs kc ks (MQ below (Qg D cA sz (pI post)) args s mc ms (oA sz)) (F0 m 7 ls []) := by
  obtain ⟨hx, hb, hml, hown, hts⟩ := id S
  intro n
  induction n with
  | zero =>
    intro kc ks g this v1 H locs ls hk h hG hS hl
    exact h.elim
  | succ n ih =>
    intro kc ks g this v1 H locs ls hk h hG hS hl
    refine lv_iload_n hx hb d_C_heads_7 rfl (lv_at hl 1 rfl) ?_
    refine lv_aload_n hx hb d_C_heads_8 rfl (lv_at hl 0 rfl) ?_
    refine r_getI (f := 26) S hZ hG rfl h.1 (hts _ tw_157) (fun _ h9 => h9) d_C_heads_9 (fun x13 e9 => ?_)
    replace h := h.2 x13 e9
    refine lv_icmp_ge (tgt := 48) hx hb d_C_heads_12 (by decide) (fun c9 => ?_) (fun c9 => ?_)
    · replace h := h.1 c9
      refine lv_aload_n hx hb d_C_heads_48 rfl (lv_at hl 0 rfl) ?_
      refine r_getI (f := 27) S hZ hG rfl h.1 (hts _ tw_158) (fun _ h9 => h9) d_C_heads_49 (fun x14 e9 => ?_)
      replace h := h.2 x14 e9
      exact r_iret (v := x14) S hr hlk hG hS h hk.1 hk.2 d_C_heads_52
    · replace h := h.2 c9
      refine lv_aload_n hx hb d_C_heads_15 rfl (lv_at hl 0 rfl) ?_
      refine r_getR (f := 21) S hZ hG rfl h.1 (hts _ tw_152) (fun _ h9 => h9) d_C_heads_16 (fun o15 e9 => ?_)
      replace h := h.2 o15 e9
      refine lv_iload_n hx hb d_C_heads_19 rfl (lv_at hl 1 rfl) ?_
      obtain ⟨a16, e9, h⟩ := h
      subst e9
      obtain ⟨j17, h9, h⟩ := h
      refine r_aald (k := 104) S hZ hG h9 (by decide) rfl d_C_heads_20 (fun o18 e9 => ?_)
      replace h := h o18 e9
      obtain ⟨a19, e9, h⟩ := h
      subst e9
      obtain ⟨h9, h⟩ := h
      obtain ⟨c20, c21, k1, k2, h⟩ := h
      obtain ⟨n9, h9⟩ := isK1 h9
      refine q_callR (run_V (As := []) (rest := []) S hZ hG hS (s_A_latest h) tw_184 tw_181 tw_182 tw_183 tw_7 nk_A_latest h9 (by decide) rfl ⟨Nat.le_of_ble_eq_true rfl, Nat.le_of_ble_eq_true rfl⟩ rfl hl.1 rfl (by decide) d_C_heads_21 ⟨k1, k2⟩) hS (fun o23 g22 H locs h40 hG hS => ?_)
      have hk := And.intro k1 k2
      replace h := h40
      refine q_astore_n (o := o23) (lv' := [(2, va_rf o23), (0, .ref this), (1, .int v1)]) hx hb d_C_heads_24 rfl hl (by decide) (.n (.k 0 rfl (by decide) (by decide) (.c 1 rfl (by decide) rfl .e))) (fun ls24 hl24 => ?_)
      refine q_aload_n hx hb d_C_heads_25 rfl (lv_at hl24 0 rfl) ?_
      refine q_ifnull (tgt := 42) hx hb d_C_heads_26 (by decide) (fun e9 => ?_) (fun a25 e9 => ?_)
      · replace h := h.1 e9
        subst e9
        have hl26 : lv_has ls24 3 [(2, .null), (0, .ref this), (1, .int v1)] := hl24
        refine q_iinc (k := 2) (v := v1 + (1 : Int32)) (lv' := [(1, .int (v1 + (1 : Int32))), (2, .null), (0, .ref this)]) hx hb d_C_heads_42 hl26 rfl rfl (by decide) (.n (.k 0 rfl (by decide) (by decide) (.c 1 rfl (by decide) rfl .e))) (fun ls28 hl28 => ?_)
        refine lv_goto (tgt := 7) hx hb d_C_heads_45 (by decide) ?_
        exact ih _ _ _ _ _ _ _ _ hk h hG hS (lv_sub hl28 [2, 0] rfl)
      · replace h := h.2 a25 e9
        subst e9
        have hl27 : lv_has ls24 3 [(2, .ref a25), (0, .ref this), (1, .int v1)] := hl24
        refine lv_aload_n hx hb d_C_heads_29 rfl (lv_at hl27 1 rfl) ?_
        refine lv_aload_n hx hb d_C_heads_30 rfl (lv_at hl27 0 rfl) ?_
        obtain ⟨h9, h⟩ := h
        obtain ⟨c29, c30, k1, k2, h⟩ := h
        obtain ⟨n9, h9⟩ := isK1 h9
        refine q_callI (run_V (As := [va_rf (some a25)]) (rest := []) S hZ hG hS (s_C_hasFollower h) tw_208 tw_205 tw_207 tp_0 tw_1 nk_C_hasFollower h9 (by decide) rfl ⟨Nat.le_of_ble_eq_true rfl, Nat.le_of_ble_eq_true rfl⟩ rfl hl27.1 rfl (by decide) d_C_heads_31 ⟨k1, k2⟩) hS (fun x32 g31 H locs h39 hG hS => ?_)
        have hk := And.intro k1 k2
        replace h := h39
        refine lv_if_ne (tgt := 42) hx hb d_C_heads_34 (by decide) (fun c9 => ?_) (fun c9 => ?_)
        · replace h := h.1 c9
          refine q_iinc (k := 2) (v := v1 + (1 : Int32)) (lv' := [(1, .int (v1 + (1 : Int32))), (2, .ref a25), (0, .ref this)]) hx hb d_C_heads_42 hl27 rfl rfl (by decide) (.n (.k 0 rfl (by decide) (by decide) (.c 1 rfl (by decide) rfl .e))) (fun ls33 hl33 => ?_)
          refine lv_goto (tgt := 7) hx hb d_C_heads_45 (by decide) ?_
          exact ih _ _ _ _ _ _ _ _ hk h hG hS (lv_sub hl33 [2, 0] rfl)
        · replace h := h.2 c9
          refine lv_aload_n hx hb d_C_heads_37 rfl (lv_at hl27 1 rfl) ?_
          refine lv_aload_n hx hb d_C_heads_38 rfl (lv_at hl27 0 rfl) ?_
          obtain ⟨h9, h⟩ := h
          obtain ⟨c34, c35, k1, k2, h⟩ := h
          obtain ⟨n9, h9⟩ := isK1 h9
          refine q_callV (run_V (As := [va_rf (some a25)]) (rest := []) S hZ hG hS (s_C_enlist h) tw_224 tw_221 tw_223 tp_1 tw_1 nk_C_enlist h9 (by decide) rfl ⟨Nat.le_of_ble_eq_true rfl, Nat.le_of_ble_eq_true rfl⟩ rfl hl27.1 rfl (by decide) d_C_heads_39 ⟨k1, k2⟩) hS (fun g36 H locs h38 hG hS => ?_)
          have hk := And.intro k1 k2
          replace h := h38
          refine q_iinc (k := 2) (v := v1 + (1 : Int32)) (lv' := [(1, .int (v1 + (1 : Int32))), (2, .ref a25), (0, .ref this)]) hx hb d_C_heads_42 hl27 rfl rfl (by decide) (.n (.k 0 rfl (by decide) (by decide) (.c 1 rfl (by decide) rfl .e))) (fun ls37 hl37 => ?_)
          refine lv_goto (tgt := 7) hx hb d_C_heads_45 (by decide) ?_
          exact ih _ _ _ _ _ _ _ _ hk h hG hS (lv_sub hl37 [2, 0] rfl)
def w_C_heads (z mi mc ms : Nat) (post : Int32 → Sg → Prop) (g : Sg) (this : Nat) : Prop := (hasI g this 27 ∧ ∀ g11 : Sg, g11 = wI g 27 this (0 : Int32) → (∃ n41 : Nat, w_C_heads_7 z mi mc ms post n41 0 0 g11 this (0 : Int32)))
set_option maxHeartbeats 4000000 in
set_option maxRecDepth 100000 in
theorem s_C_heads {l : Launch} {D : va_G} {cA : Nat → ClassId} {sz z mi mc ms : Nat} {g : Sg} {post : Int32 → Sg → Prop} {this : Nat} (h : w_C_heads z mi mc ms post g this) : Met l y_C_heads (Cond.code y_C_heads b_C_heads 3 (some FieldType.int) :: TBL) ({ frames := 6, cells := mc, slots := ms, locals := 167 } : Room) (Pg D cA sz z mi [.ref this] g) (Qg D cA sz (pI post)) mc ms (oA sz) := by
  refine m_code (lv := [(0, .ref this)]) (by decide +kernel) (Nat.le_of_ble_eq_true rfl) rfl ?_
  intro p e s m below meth c ls S hr hlk hnm hZ hG hS hl
  obtain ⟨hx, hb, hml, hown, hts⟩ := id S
  have hk : 0 ≤ mc ∧ 0 ≤ ms := ⟨Nat.zero_le _, Nat.zero_le _⟩
  refine lv_aload_n hx hb d_C_heads_0 rfl (lv_at hl 0 rfl) ?_
  refine lv_iconst (v := (0 : Int32)) hx hb d_C_heads_1 (by decide) ?_
  refine r_putI (f := 27) S hZ hG hS rfl h.1 (hts _ tw_158) (fun _ h9 => h9) (Or.inl rfl) d_C_heads_2 (fun g11 H locs e9 hG hS => ?_)
  replace h := h.2 g11 e9
  refine lv_iconst (v := (0 : Int32)) hx hb d_C_heads_5 (by decide) ?_
  refine q_istore_n (lv' := [(1, .int ((0 : Int32))), (0, .ref this)]) hx hb d_C_heads_6 rfl hl (by decide) (.n (.c 0 rfl (by decide) rfl .e)) (fun ls12 hl12 => ?_)
  obtain ⟨n41, h⟩ := h
  exact s_C_heads_7 S hZ hr hlk n41 _ _ _ _ _ _ _ _ hk h hG hS (lv_sub hl12 [1, 0] rfl)
def w_C_length (z mi mc ms : Nat) (post : Int32 → Sg → Prop) (g : Sg) (this : Nat) : Prop := (hasI g this 28 ∧ ∀ x11 : Int32, x11 = fI g 28 this → post x11 g)
set_option maxHeartbeats 4000000 in
set_option maxRecDepth 100000 in
theorem s_C_length {l : Launch} {D : va_G} {cA : Nat → ClassId} {sz z mi mc ms : Nat} {g : Sg} {post : Int32 → Sg → Prop} {this : Nat} (h : w_C_length z mi mc ms post g this) : Met l y_C_length (Cond.code y_C_length b_C_length 1 (some FieldType.int) :: TBL) ({ frames := 0, cells := mc, slots := ms, locals := 0 } : Room) (Pg D cA sz z mi [.ref this] g) (Qg D cA sz (pI post)) mc ms (oA sz) := by
  refine m_code (lv := [(0, .ref this)]) (by decide +kernel) (Nat.le_of_ble_eq_true rfl) rfl ?_
  intro p e s m below meth c ls S hr hlk hnm hZ hG hS hl
  obtain ⟨hx, hb, hml, hown, hts⟩ := id S
  have hk : 0 ≤ mc ∧ 0 ≤ ms := ⟨Nat.zero_le _, Nat.zero_le _⟩
  refine lv_aload_n hx hb d_C_length_0 rfl (lv_at hl 0 rfl) ?_
  refine r_getI (f := 28) S hZ hG rfl h.1 (hts _ tw_159) (fun _ h9 => h9) d_C_length_1 (fun x11 e9 => ?_)
  replace h := h.2 x11 e9
  exact r_iret (v := x11) S hr hlk hG hS h hk.1 hk.2 d_C_length_4
def w_C_findAgent_2 (z mi mc ms : Nat) (post : Option Nat → Sg → Prop) : Nat → Nat → Nat → Sg → Nat → Int32 → Int32 → Prop
  | 0 => fun _ _ _ _ _ _ => False
  | n + 1 => fun kc ks g this v1 v2 => (hasI g this 26 ∧ ∀ x12 : Int32, x12 = fI g 26 this → (x12 ≤ v2 → post none g) ∧ (¬ x12 ≤ v2 → (hasR g this 21 ∧ ∀ o13 : Option Nat, o13 = fR g 21 this → ∃ a14, o13 = some a14 ∧ (∃ j15 : Nat, inA g a14 104 v2 j15 ∧ ∀ o16 : Option Nat, o16 = aR g a14 j15 → ∃ a17, o16 = some a17 ∧ (hasI g a17 4 ∧ ∀ x18 : Int32, x18 = fI g 4 a17 → (¬ x18 = v1 → w_C_findAgent_2 z mi mc ms post n kc ks g this v1 (v2 + (1 : Int32))) ∧ (x18 = v1 → (hasR g this 21 ∧ ∀ o20 : Option Nat, o20 = fR g 21 this → ∃ a21, o20 = some a21 ∧ (∃ j22 : Nat, inA g a21 104 v2 j22 ∧ ∀ o23 : Option Nat, o23 = aR g a21 j22 → post o23 g))))))))
set_option maxHeartbeats 4000000 in
set_option maxRecDepth 100000 in
theorem s_C_findAgent_2 {p : Program} {l : Launch} {e : Env} {s : State} {m : MethodId} {args : Array Value} {below : List Frame} {meth : Method} {c : Code} {D : va_G} {cA : Nat → ClassId} {sz z mi mc ms : Nat} {post : Option Nat → Sg → Prop} (S : CallFix p m c b_C_findAgent 3 s args TBL "WeaveCore") (hZ : Ws D cA sz z mi s) (hr : meth.sig.returnType = (some (FieldType.object "WeaveCore$Agent"))) (hlk : meth.locks = false) :
    ∀ n : Nat, ∀ (kc ks : Nat) (g : Sg) (this : Nat) (v1 : Int32) (v2 : Int32) (H : Heap) (locs : List Loc) (ls : Array Slot), kc ≤ mc ∧ ks ≤ ms → w_C_findAgent_2 z mi mc ms post n kc ks g this v1 v2 → WP D cA sz g H → va_S (oA sz) s.heap H locs → lv_has ls 3 [(0, .ref this), (1, .int v1), (2, .int v2)] → W p l e ({ frames := 0, cells := mc, slots := ms, locals := 0 } : Room) s m args below meth c H locs kc ks (MQ below (Qg D cA sz (pR post)) args s mc ms (oA sz)) (F0 m 2 ls []) := by
  obtain ⟨hx, hb, hml, hown, hts⟩ := id S
  intro n
  induction n with
  | zero =>
    intro kc ks g this v1 v2 H locs ls hk h hG hS hl
    exact h.elim
  | succ n ih =>
    intro kc ks g this v1 v2 H locs ls hk h hG hS hl
    refine lv_iload_n hx hb d_C_findAgent_2 rfl (lv_at hl 2 rfl) ?_
    refine lv_aload_n hx hb d_C_findAgent_3 rfl (lv_at hl 0 rfl) ?_
    refine r_getI (f := 26) S hZ hG rfl h.1 (hts _ tw_157) (fun _ h9 => h9) d_C_findAgent_4 (fun x12 e9 => ?_)
    replace h := h.2 x12 e9
    refine lv_icmp_ge (tgt := 36) hx hb d_C_findAgent_7 (by decide) (fun c9 => ?_) (fun c9 => ?_)
    · replace h := h.1 c9
      refine lv_null hx hb d_C_findAgent_36 ?_
      exact r_aret (o := none) S hr (Or.inl ⟨_, rfl⟩) hlk hG hS h hk.1 hk.2 d_C_findAgent_37
    · replace h := h.2 c9
      refine lv_aload_n hx hb d_C_findAgent_10 rfl (lv_at hl 0 rfl) ?_
      refine r_getR (f := 21) S hZ hG rfl h.1 (hts _ tw_152) (fun _ h9 => h9) d_C_findAgent_11 (fun o13 e9 => ?_)
      replace h := h.2 o13 e9
      refine lv_iload_n hx hb d_C_findAgent_14 rfl (lv_at hl 2 rfl) ?_
      obtain ⟨a14, e9, h⟩ := h
      subst e9
      obtain ⟨j15, h9, h⟩ := h
      refine r_aald (k := 104) S hZ hG h9 (by decide) rfl d_C_findAgent_15 (fun o16 e9 => ?_)
      replace h := h o16 e9
      obtain ⟨a17, e9, h⟩ := h
      subst e9
      refine r_getI (f := 4) S hZ hG rfl h.1 (hts _ tw_74) (fun _ h9 => h9) d_C_findAgent_16 (fun x18 e9 => ?_)
      replace h := h.2 x18 e9
      refine lv_iload_n hx hb d_C_findAgent_19 rfl (lv_at hl 1 rfl) ?_
      refine lv_icmp_ne (tgt := 30) hx hb d_C_findAgent_20 (by decide) (fun c9 => ?_) (fun c9 => ?_)
      · replace h := h.1 c9
        refine q_iinc (k := 2) (v := v2 + (1 : Int32)) (lv' := [(2, .int (v2 + (1 : Int32))), (0, .ref this), (1, .int v1)]) hx hb d_C_findAgent_30 hl rfl rfl (by decide) (.n (.k 0 rfl (by decide) (by decide) (.c 1 rfl (by decide) rfl .e))) (fun ls19 hl19 => ?_)
        refine lv_goto (tgt := 2) hx hb d_C_findAgent_33 (by decide) ?_
        exact ih _ _ _ _ _ _ _ _ _ hk h hG hS (lv_sub hl19 [1, 2, 0] rfl)
      · replace h := h.2 c9
        refine lv_aload_n hx hb d_C_findAgent_23 rfl (lv_at hl 0 rfl) ?_
        refine r_getR (f := 21) S hZ hG rfl h.1 (hts _ tw_152) (fun _ h9 => h9) d_C_findAgent_24 (fun o20 e9 => ?_)
        replace h := h.2 o20 e9
        refine lv_iload_n hx hb d_C_findAgent_27 rfl (lv_at hl 2 rfl) ?_
        obtain ⟨a21, e9, h⟩ := h
        subst e9
        obtain ⟨j22, h9, h⟩ := h
        refine r_aald (k := 104) S hZ hG h9 (by decide) rfl d_C_findAgent_28 (fun o23 e9 => ?_)
        replace h := h o23 e9
        exact r_aret (o := o23) S hr (Or.inl ⟨_, rfl⟩) hlk hG hS h hk.1 hk.2 d_C_findAgent_29
def w_C_findAgent (z mi mc ms : Nat) (post : Option Nat → Sg → Prop) (g : Sg) (this : Nat) (p0 : Int32) : Prop := (∃ n24 : Nat, w_C_findAgent_2 z mi mc ms post n24 0 0 g this p0 (0 : Int32))
set_option maxHeartbeats 4000000 in
set_option maxRecDepth 100000 in
theorem s_C_findAgent {l : Launch} {D : va_G} {cA : Nat → ClassId} {sz z mi mc ms : Nat} {g : Sg} {post : Option Nat → Sg → Prop} {this : Nat} {p0 : Int32} (h : w_C_findAgent z mi mc ms post g this p0) : Met l y_C_findAgent (Cond.code y_C_findAgent b_C_findAgent 3 (some (FieldType.object "WeaveCore$Agent")) :: TBL) ({ frames := 0, cells := mc, slots := ms, locals := 0 } : Room) (Pg D cA sz z mi [.ref this, .int p0] g) (Qg D cA sz (pR post)) mc ms (oA sz) := by
  refine m_code (lv := [(0, .ref this), (1, .int p0)]) (by decide +kernel) (Nat.le_of_ble_eq_true rfl) rfl ?_
  intro p e s m below meth c ls S hr hlk hnm hZ hG hS hl
  obtain ⟨hx, hb, hml, hown, hts⟩ := id S
  have hk : 0 ≤ mc ∧ 0 ≤ ms := ⟨Nat.zero_le _, Nat.zero_le _⟩
  refine lv_iconst (v := (0 : Int32)) hx hb d_C_findAgent_0 (by decide) ?_
  refine q_istore_n (lv' := [(2, .int ((0 : Int32))), (0, .ref this), (1, .int p0)]) hx hb d_C_findAgent_1 rfl hl (by decide) (.n (.k 0 rfl (by decide) (by decide) (.c 1 rfl (by decide) rfl .e))) (fun ls11 hl11 => ?_)
  obtain ⟨n24, h⟩ := h
  exact s_C_findAgent_2 S hZ hr hlk n24 _ _ _ _ _ _ _ _ _ hk h hG hS (lv_sub hl11 [1, 2, 0] rfl)
def w_C_findEvent (z mi mc ms : Nat) (post : Option Nat → Sg → Prop) (g : Sg) (this : Nat) (p0 : Int32) (p1 : Int32) : Prop := (isK g this [4] ∧ ∃ c11 c12 : Nat, 0 + c11 ≤ mc ∧ 0 + c12 ≤ ms ∧ w_C_findAgent z mi c11 c12 (fun (o14 : Option Nat) (g13 : Sg) => (o14 = none → post none g13) ∧ (∀ a16, o14 = some a16 → (p1 < 0 → post none g13) ∧ (¬ p1 < 0 → (hasR g13 a16 6 ∧ ∀ o19 : Option Nat, o19 = fR g13 6 a16 → ∃ a20, o19 = some a20 ∧ (isK g13 a20 [0] ∧ ∃ c21 c22 : Nat, (0 + c11) + c21 ≤ mc ∧ (0 + c12) + c22 ≤ ms ∧ w_AL_size z mi c21 c22 (fun (x24 : Int32) (g23 : Sg) => (p1 < x24 → (hasR g23 a16 6 ∧ ∀ o25 : Option Nat, o25 = fR g23 6 a16 → ∃ a26, o25 = some a26 ∧ (isK g23 a26 [0] ∧ ∃ c27 c28 : Nat, ((0 + c11) + c21) + c27 ≤ mc ∧ ((0 + c12) + c22) + c28 ≤ ms ∧ w_AL_get z mi c27 c28 (fun (o30 : Option Nat) (g29 : Sg) => ∃ a31, o30 = some a31 ∧ (isK g29 a31 [2, 3] ∧ post (some a31) g29)) g23 a26 p1))) ∧ (¬ p1 < x24 → post none g23)) g13 a20))))) g this p0)
set_option maxHeartbeats 4000000 in
set_option maxRecDepth 100000 in
theorem s_C_findEvent {l : Launch} {D : va_G} {cA : Nat → ClassId} {sz z mi mc ms : Nat} {g : Sg} {post : Option Nat → Sg → Prop} {this : Nat} {p0 : Int32} {p1 : Int32} (h : w_C_findEvent z mi mc ms post g this p0 p1) : Met l y_C_findEvent (Cond.code y_C_findEvent b_C_findEvent 4 (some (FieldType.object "WeaveCore$Event")) :: TBL) ({ frames := 4, cells := mc, slots := ms, locals := 124 } : Room) (Pg D cA sz z mi [.ref this, .int p0, .int p1] g) (Qg D cA sz (pR post)) mc ms (oA sz) := by
  refine m_code (lv := [(0, .ref this), (1, .int p0), (2, .int p1)]) (by decide +kernel) (Nat.le_of_ble_eq_true rfl) rfl ?_
  intro p e s m below meth c ls S hr hlk hnm hZ hG hS hl
  obtain ⟨hx, hb, hml, hown, hts⟩ := id S
  have hk : 0 ≤ mc ∧ 0 ≤ ms := ⟨Nat.zero_le _, Nat.zero_le _⟩
  refine lv_aload_n hx hb d_C_findEvent_0 rfl (lv_at hl 0 rfl) ?_
  refine lv_iload_n hx hb d_C_findEvent_1 rfl (lv_at hl 1 rfl) ?_
  obtain ⟨h9, h⟩ := h
  obtain ⟨c11, c12, k1, k2, h⟩ := h
  obtain ⟨n9, h9⟩ := isK1 h9
  refine q_callR (run_V (As := [.int p0]) (rest := []) S hZ hG hS (s_C_findAgent h) tw_246 tw_243 tw_245 tp_3 tw_1 nk_C_findAgent h9 (by decide) rfl ⟨Nat.le_of_ble_eq_true rfl, Nat.le_of_ble_eq_true rfl⟩ rfl hl.1 rfl (by decide) d_C_findEvent_2 ⟨k1, k2⟩) hS (fun o14 g13 H locs h34 hG hS => ?_)
  have hk := And.intro k1 k2
  replace h := h34
  refine q_astore_n (o := o14) (lv' := [(3, va_rf o14), (0, .ref this), (1, .int p0), (2, .int p1)]) hx hb d_C_findEvent_5 rfl hl (by decide) (.n (.k 0 rfl (by decide) (by decide) (.k 1 rfl (by decide) (by decide) (.c 2 rfl (by decide) rfl .e)))) (fun ls15 hl15 => ?_)
  refine q_aload_n hx hb d_C_findEvent_6 rfl (lv_at hl15 0 rfl) ?_
  refine q_ifnull (tgt := 25) hx hb d_C_findEvent_7 (by decide) (fun e9 => ?_) (fun a16 e9 => ?_)
  · replace h := h.1 e9
    subst e9
    have hl17 : lv_has ls15 4 [(3, .null), (0, .ref this), (1, .int p0), (2, .int p1)] := hl15
    refine lv_null hx hb d_C_findEvent_25 ?_
    exact r_aret (o := none) S hr (Or.inl ⟨_, rfl⟩) hlk hG hS h hk.1 hk.2 d_C_findEvent_26
  · replace h := h.2 a16 e9
    subst e9
    have hl18 : lv_has ls15 4 [(3, .ref a16), (0, .ref this), (1, .int p0), (2, .int p1)] := hl15
    refine lv_iload_n hx hb d_C_findEvent_10 rfl (lv_at hl18 3 rfl) ?_
    refine lv_if_lt (tgt := 25) hx hb d_C_findEvent_11 (by decide) (fun c9 => ?_) (fun c9 => ?_)
    · replace h := h.1 c9
      refine lv_null hx hb d_C_findEvent_25 ?_
      exact r_aret (o := none) S hr (Or.inl ⟨_, rfl⟩) hlk hG hS h hk.1 hk.2 d_C_findEvent_26
    · replace h := h.2 c9
      refine lv_iload_n hx hb d_C_findEvent_14 rfl (lv_at hl18 3 rfl) ?_
      refine lv_aload_n hx hb d_C_findEvent_15 rfl (lv_at hl18 0 rfl) ?_
      refine r_getR (f := 6) S hZ hG rfl h.1 (hts _ tw_80) (fun _ h9 => h9) d_C_findEvent_16 (fun o19 e9 => ?_)
      replace h := h.2 o19 e9
      obtain ⟨a20, e9, h⟩ := h
      subst e9
      obtain ⟨h9, h⟩ := h
      obtain ⟨c21, c22, k1, k2, h⟩ := h
      obtain ⟨n9, h9⟩ := isK1 h9
      refine q_callI (run_V (As := []) (rest := [.int p1]) S hZ hG hS (s_AL_size h) tw_99 tw_247 tw_97 tw_98 tw_4 nk_AL_size h9 (by decide) rfl ⟨Nat.le_of_ble_eq_true rfl, Nat.le_of_ble_eq_true rfl⟩ rfl hl18.1 rfl (Nat.le_of_ble_eq_true rfl) d_C_findEvent_19 ⟨k1, k2⟩) hS (fun x24 g23 H locs h33 hG hS => ?_)
      have hk := And.intro k1 k2
      replace h := h33
      refine lv_icmp_lt (tgt := 27) hx hb d_C_findEvent_22 (by decide) (fun c9 => ?_) (fun c9 => ?_)
      · replace h := h.1 c9
        refine lv_aload_n hx hb d_C_findEvent_27 rfl (lv_at hl18 0 rfl) ?_
        refine r_getR (f := 6) S hZ hG rfl h.1 (hts _ tw_80) (fun _ h9 => h9) d_C_findEvent_28 (fun o25 e9 => ?_)
        replace h := h.2 o25 e9
        refine lv_iload_n hx hb d_C_findEvent_31 rfl (lv_at hl18 3 rfl) ?_
        obtain ⟨a26, e9, h⟩ := h
        subst e9
        obtain ⟨h9, h⟩ := h
        obtain ⟨c27, c28, k1, k2, h⟩ := h
        obtain ⟨n9, h9⟩ := isK1 h9
        refine q_callR (run_V (As := [.int p1]) (rest := []) S hZ hG hS (s_AL_get h) tw_193 tw_248 tw_191 tw_192 tw_4 nk_AL_get h9 (by decide) rfl ⟨Nat.le_of_ble_eq_true rfl, Nat.le_of_ble_eq_true rfl⟩ rfl hl18.1 rfl (by decide) d_C_findEvent_32 ⟨k1, k2⟩) hS (fun o30 g29 H locs h32 hG hS => ?_)
        have hk := And.intro k1 k2
        replace h := h32
        obtain ⟨a31, e9, h⟩ := h
        subst e9
        obtain ⟨h9, h⟩ := h
        refine r_castE S hZ hG tw_61 h9 d_C_findEvent_35 ?_
        exact r_aret (o := (some a31)) S hr (Or.inl ⟨_, rfl⟩) hlk hG hS h hk.1 hk.2 d_C_findEvent_38
      · replace h := h.2 c9
        refine lv_null hx hb d_C_findEvent_25 ?_
        exact r_aret (o := none) S hr (Or.inl ⟨_, rfl⟩) hlk hG hS h hk.1 hk.2 d_C_findEvent_26
def w_C_isListed_2 (z mi mc ms : Nat) (post : Int32 → Sg → Prop) : Nat → Nat → Nat → Sg → Nat → Option Nat → Int32 → Prop
  | 0 => fun _ _ _ _ _ _ => False
  | n + 1 => fun kc ks g this v1 v2 => (hasI g this 27 ∧ ∀ x12 : Int32, x12 = fI g 27 this → (x12 ≤ v2 → post (0 : Int32) g) ∧ (¬ x12 ≤ v2 → (hasR g this 24 ∧ ∀ o13 : Option Nat, o13 = fR g 24 this → ∃ a14, o13 = some a14 ∧ (∃ j15 : Nat, inA g a14 105 v2 j15 ∧ ∀ o16 : Option Nat, o16 = aR g a14 j15 → (¬ o16 = v1 → w_C_isListed_2 z mi mc ms post n kc ks g this v1 (v2 + (1 : Int32))) ∧ (o16 = v1 → post (1 : Int32) g)))))
set_option maxHeartbeats 4000000 in
set_option maxRecDepth 100000 in
theorem s_C_isListed_2 {p : Program} {l : Launch} {e : Env} {s : State} {m : MethodId} {args : Array Value} {below : List Frame} {meth : Method} {c : Code} {D : va_G} {cA : Nat → ClassId} {sz z mi mc ms : Nat} {post : Int32 → Sg → Prop} (S : CallFix p m c b_C_isListed 3 s args TBL "WeaveCore") (hZ : Ws D cA sz z mi s) (hr : meth.sig.returnType = (some FieldType.boolean)) (hlk : meth.locks = false) :
    ∀ n : Nat, ∀ (kc ks : Nat) (g : Sg) (this : Nat) (v1 : Option Nat) (v2 : Int32) (H : Heap) (locs : List Loc) (ls : Array Slot), kc ≤ mc ∧ ks ≤ ms → w_C_isListed_2 z mi mc ms post n kc ks g this v1 v2 → WP D cA sz g H → va_S (oA sz) s.heap H locs → lv_has ls 3 [(0, .ref this), (1, va_rf v1), (2, .int v2)] → W p l e ({ frames := 0, cells := mc, slots := ms, locals := 0 } : Room) s m args below meth c H locs kc ks (MQ below (Qg D cA sz (pI post)) args s mc ms (oA sz)) (F0 m 2 ls []) := by
  obtain ⟨hx, hb, hml, hown, hts⟩ := id S
  intro n
  induction n with
  | zero =>
    intro kc ks g this v1 v2 H locs ls hk h hG hS hl
    exact h.elim
  | succ n ih =>
    intro kc ks g this v1 v2 H locs ls hk h hG hS hl
    refine lv_iload_n hx hb d_C_isListed_2 rfl (lv_at hl 2 rfl) ?_
    refine lv_aload_n hx hb d_C_isListed_3 rfl (lv_at hl 0 rfl) ?_
    refine r_getI (f := 27) S hZ hG rfl h.1 (hts _ tw_158) (fun _ h9 => h9) d_C_isListed_4 (fun x12 e9 => ?_)
    replace h := h.2 x12 e9
    refine lv_icmp_ge (tgt := 28) hx hb d_C_isListed_7 (by decide) (fun c9 => ?_) (fun c9 => ?_)
    · replace h := h.1 c9
      refine lv_iconst (v := (0 : Int32)) hx hb d_C_isListed_28 (by decide) ?_
      exact r_zret (v := (0 : Int32)) S hr hlk rfl hG hS h hk.1 hk.2 d_C_isListed_29
    · replace h := h.2 c9
      refine lv_aload_n hx hb d_C_isListed_10 rfl (lv_at hl 0 rfl) ?_
      refine r_getR (f := 24) S hZ hG rfl h.1 (hts _ tw_155) (fun _ h9 => h9) d_C_isListed_11 (fun o13 e9 => ?_)
      replace h := h.2 o13 e9
      refine lv_iload_n hx hb d_C_isListed_14 rfl (lv_at hl 2 rfl) ?_
      obtain ⟨a14, e9, h⟩ := h
      subst e9
      obtain ⟨j15, h9, h⟩ := h
      refine r_aald (k := 105) S hZ hG h9 (by decide) rfl d_C_isListed_15 (fun o16 e9 => ?_)
      replace h := h o16 e9
      refine q_aload_n hx hb d_C_isListed_16 rfl (lv_at hl 1 rfl) ?_
      refine lv_acmp_ne (rx := o16) (ry := v1) (tgt := 22) hx hb d_C_isListed_17 (by decide) (fun c9 => ?_) (fun c9 => ?_)
      · replace h := h.1 c9
        refine q_iinc (k := 2) (v := v2 + (1 : Int32)) (lv' := [(2, .int (v2 + (1 : Int32))), (0, .ref this), (1, va_rf v1)]) hx hb d_C_isListed_22 hl rfl rfl (by decide) (.n (.k 0 rfl (by decide) (by decide) (.c 1 rfl (by decide) (rf_cat _) .e))) (fun ls17 hl17 => ?_)
        refine lv_goto (tgt := 2) hx hb d_C_isListed_25 (by decide) ?_
        exact ih _ _ _ _ _ _ _ _ _ hk h hG hS (lv_sub hl17 [1, 2, 0] rfl)
      · replace h := h.2 c9
        refine lv_iconst (v := (1 : Int32)) hx hb d_C_isListed_20 (by decide) ?_
        exact r_zret (v := (1 : Int32)) S hr hlk rfl hG hS h hk.1 hk.2 d_C_isListed_21
def w_C_isListed (z mi mc ms : Nat) (post : Int32 → Sg → Prop) (g : Sg) (this : Nat) (p0 : Option Nat) : Prop := (∃ n18 : Nat, w_C_isListed_2 z mi mc ms post n18 0 0 g this p0 (0 : Int32))
set_option maxHeartbeats 4000000 in
set_option maxRecDepth 100000 in
theorem s_C_isListed {l : Launch} {D : va_G} {cA : Nat → ClassId} {sz z mi mc ms : Nat} {g : Sg} {post : Int32 → Sg → Prop} {this : Nat} {p0 : Option Nat} (h : w_C_isListed z mi mc ms post g this p0) : Met l y_C_isListed (Cond.code y_C_isListed b_C_isListed 3 (some FieldType.boolean) :: TBL) ({ frames := 0, cells := mc, slots := ms, locals := 0 } : Room) (Pg D cA sz z mi [.ref this, va_rf p0] g) (Qg D cA sz (pI post)) mc ms (oA sz) := by
  refine m_code (lv := [(0, .ref this), (1, va_rf p0)]) (by decide +kernel) (by simp [lg_sl, rf_cat, cat_i, cat_r, cat_l]) (by simp [lv_args, rf_cat, cat_i, cat_r, cat_l]) ?_
  intro p e s m below meth c ls S hr hlk hnm hZ hG hS hl
  obtain ⟨hx, hb, hml, hown, hts⟩ := id S
  have hk : 0 ≤ mc ∧ 0 ≤ ms := ⟨Nat.zero_le _, Nat.zero_le _⟩
  refine lv_iconst (v := (0 : Int32)) hx hb d_C_isListed_0 (by decide) ?_
  refine q_istore_n (lv' := [(2, .int ((0 : Int32))), (0, .ref this), (1, va_rf p0)]) hx hb d_C_isListed_1 rfl hl (by decide) (.n (.k 0 rfl (by decide) (by decide) (.c 1 rfl (by decide) (rf_cat _) .e))) (fun ls11 hl11 => ?_)
  obtain ⟨n18, h⟩ := h
  exact s_C_isListed_2 S hZ hr hlk n18 _ _ _ _ _ _ _ _ _ hk h hG hS (lv_sub hl11 [1, 2, 0] rfl)
def w_C_parent (z mi mc ms : Nat) (post : Int32 → Sg → Prop) (px : Nat → Sg → Prop) (g : Sg) (this : Nat) (p0 : Int32) (p1 : Int32) : Prop := (isK g this [4] ∧ ∃ c11 c12 : Nat, 0 + c11 ≤ mc ∧ 0 + c12 ≤ ms ∧ w_C_findEvent z mi c11 c12 (fun (o14 : Option Nat) (g13 : Sg) => (o14 = none → (0 + c11) + 1 ≤ mc ∧ (0 + c12) + 6 ≤ ms ∧ px 0 g13) ∧ (∀ a16, o14 = some a16 → (isK g13 this [4] ∧ ∃ c19 c20 : Nat, (0 + c11) + c19 ≤ mc ∧ (0 + c12) + c20 ≤ ms ∧ w_C_isListed z mi c19 c20 (fun (x22 : Int32) (g21 : Sg) => (x22 = 0 → (hasI g21 this 27 ∧ ∀ x23 : Int32, x23 = fI g21 27 this → (x23 < (16 : Int32) → (isK g21 this [4] ∧ ∃ c24 c25 : Nat, ((0 + c11) + c19) + c24 ≤ mc ∧ ((0 + c12) + c20) + c25 ≤ ms ∧ w_C_enlist z mi c24 c25 (fun (g26 : Sg) => (hasI g26 this 27 ∧ ∀ x27 : Int32, x27 = fI g26 27 this → post x27 g26)) g21 this (some a16))) ∧ (¬ x23 < (16 : Int32) → ((0 + c11) + c19) + 1 ≤ mc ∧ ((0 + c12) + c20) + 6 ≤ ms ∧ px 2 g21))) ∧ (¬ x22 = 0 → ((0 + c11) + c19) + 1 ≤ mc ∧ ((0 + c12) + c20) + 6 ≤ ms ∧ px 1 g21)) g13 this (some a16)))) g this p0 p1)
set_option maxHeartbeats 4000000 in
set_option maxRecDepth 100000 in
theorem s_C_parent {l : Launch} {D : va_G} {cA : Nat → ClassId} {sz z mi mc ms : Nat} {g : Sg} {post : Int32 → Sg → Prop} {px : Nat → Sg → Prop} {this : Nat} {p0 : Int32} {p1 : Int32} (hst : l.stackTraces = false) (h : w_C_parent z mi mc ms post px g this p0 p1) : vx_Met l y_C_parent (Cond.code y_C_parent b_C_parent 4 (some FieldType.int) :: TBL) ({ frames := 6, cells := mc, slots := ms, locals := 147 } : Room) (Pg D cA sz z mi [.ref this, .int p0, .int p1] g) (Qg D cA sz (pI post)) (Xg D cA sz px) mc ms (oA sz) := by
  refine m_codeX (lv := [(0, .ref this), (1, .int p0), (2, .int p1)]) (by decide +kernel) (Nat.le_of_ble_eq_true rfl) rfl ?_
  intro p e s m below meth c ls hxt S hr hlk hnm hZ hG hS hl
  obtain ⟨hx, hb, hml, hown, hts⟩ := id S
  have hk : 0 ≤ mc ∧ 0 ≤ ms := ⟨Nat.zero_le _, Nat.zero_le _⟩
  refine lv_aload_n hx hb d_C_parent_0 rfl (lv_at hl 0 rfl) ?_
  refine lv_iload_n hx hb d_C_parent_1 rfl (lv_at hl 1 rfl) ?_
  refine lv_iload_n hx hb d_C_parent_2 rfl (lv_at hl 2 rfl) ?_
  obtain ⟨h9, h⟩ := h
  obtain ⟨c11, c12, k1, k2, h⟩ := h
  obtain ⟨n9, h9⟩ := isK1 h9
  refine q_callR (run_V (As := [.int p0, .int p1]) (rest := []) S hZ hG hS (s_C_findEvent h) tw_242 tw_239 tw_241 tp_2 tw_1 nk_C_findEvent h9 (by decide) rfl ⟨Nat.le_of_ble_eq_true rfl, Nat.le_of_ble_eq_true rfl⟩ rfl hl.1 rfl (by decide) d_C_parent_3 ⟨k1, k2⟩) hS (fun o14 g13 H locs h30 hG hS => ?_)
  have hk := And.intro k1 k2
  replace h := h30
  refine q_astore_n (o := o14) (lv' := [(3, va_rf o14), (0, .ref this), (1, .int p0), (2, .int p1)]) hx hb d_C_parent_6 rfl hl (by decide) (.n (.k 0 rfl (by decide) (by decide) (.k 1 rfl (by decide) (by decide) (.c 2 rfl (by decide) rfl .e)))) (fun ls15 hl15 => ?_)
  refine q_aload_n hx hb d_C_parent_7 rfl (lv_at hl15 0 rfl) ?_
  refine q_ifnonnull (tgt := 19) hx hb d_C_parent_8 (by decide) (fun a16 e9 => ?_) (fun e9 => ?_)
  · replace h := h.2 a16 e9
    subst e9
    have hl18 : lv_has ls15 4 [(3, .ref a16), (0, .ref this), (1, .int p0), (2, .int p1)] := hl15
    refine lv_aload_n hx hb d_C_parent_19 rfl (lv_at hl18 1 rfl) ?_
    refine lv_aload_n hx hb d_C_parent_20 rfl (lv_at hl18 0 rfl) ?_
    obtain ⟨h9, h⟩ := h
    obtain ⟨c19, c20, k1, k2, h⟩ := h
    obtain ⟨n9, h9⟩ := isK1 h9
    refine q_callI (run_V (As := [va_rf (some a16)]) (rest := []) S hZ hG hS (s_C_isListed h) tw_317 tw_314 tw_316 tp_5 tw_1 nk_C_isListed h9 (by decide) rfl ⟨Nat.le_of_ble_eq_true rfl, Nat.le_of_ble_eq_true rfl⟩ rfl hl18.1 rfl (by decide) d_C_parent_21 ⟨k1, k2⟩) hS (fun x22 g21 H locs h29 hG hS => ?_)
    have hk := And.intro k1 k2
    replace h := h29
    refine lv_if_eq (tgt := 35) hx hb d_C_parent_24 (by decide) (fun c9 => ?_) (fun c9 => ?_)
    · replace h := h.1 c9
      refine lv_aload_n hx hb d_C_parent_35 rfl (lv_at hl18 1 rfl) ?_
      refine r_getI (f := 27) S hZ hG rfl h.1 (hts _ tw_158) (fun _ h9 => h9) d_C_parent_36 (fun x23 e9 => ?_)
      replace h := h.2 x23 e9
      refine lv_bipush (v := (16 : Int32)) hx hb d_C_parent_39 (by decide) ?_
      refine lv_icmp_lt (tgt := 52) hx hb d_C_parent_41 (by decide) (fun c9 => ?_) (fun c9 => ?_)
      · replace h := h.1 c9
        refine lv_aload_n hx hb d_C_parent_52 rfl (lv_at hl18 1 rfl) ?_
        refine lv_aload_n hx hb d_C_parent_53 rfl (lv_at hl18 0 rfl) ?_
        obtain ⟨h9, h⟩ := h
        obtain ⟨c24, c25, k1, k2, h⟩ := h
        obtain ⟨n9, h9⟩ := isK1 h9
        refine q_callV (run_V (As := [va_rf (some a16)]) (rest := []) S hZ hG hS (s_C_enlist h) tw_224 tw_221 tw_223 tp_1 tw_1 nk_C_enlist h9 (by decide) rfl ⟨Nat.le_of_ble_eq_true rfl, Nat.le_of_ble_eq_true rfl⟩ rfl hl18.1 rfl (by decide) d_C_parent_54 ⟨k1, k2⟩) hS (fun g26 H locs h28 hG hS => ?_)
        have hk := And.intro k1 k2
        replace h := h28
        refine lv_aload_n hx hb d_C_parent_57 rfl (lv_at hl18 1 rfl) ?_
        refine r_getI (f := 27) S hZ hG rfl h.1 (hts _ tw_158) (fun _ h9 => h9) d_C_parent_58 (fun x27 e9 => ?_)
        replace h := h.2 x27 e9
        exact vx_ret (r_iret (v := x27) S hr hlk hG hS h hk.1 hk.2 d_C_parent_61)
      · replace h := h.2 c9
        exact r_throw (i := 2) S hst hZ hG hS (by decide) tw_333 tw_17 xa_C_68_70 xb_C_68_70 xo_C_68_70 hl18.1 d_C_parent_44 d_C_parent_47 d_C_parent_48 d_C_parent_51 (fun x hx => (hxt x hx).elim) (Nat.le_of_ble_eq_true rfl) (Nat.le_of_ble_eq_true rfl) rfl rfl hlk h.2.2 h.1 h.2.1
    · replace h := h.2 c9
      exact r_throw (i := 1) S hst hZ hG hS (by decide) tw_318 tw_16 xa_C_65_67 xb_C_65_67 xo_C_65_67 hl18.1 d_C_parent_27 d_C_parent_30 d_C_parent_31 d_C_parent_34 (fun x hx => (hxt x hx).elim) (Nat.le_of_ble_eq_true rfl) (Nat.le_of_ble_eq_true rfl) rfl rfl hlk h.2.2 h.1 h.2.1
  · replace h := h.1 e9
    subst e9
    have hl17 : lv_has ls15 4 [(3, .null), (0, .ref this), (1, .int p0), (2, .int p1)] := hl15
    exact r_throw (i := 0) S hst hZ hG hS (by decide) tw_249 tw_15 xa_C_58_60 xb_C_58_60 xo_C_58_60 hl17.1 d_C_parent_11 d_C_parent_14 d_C_parent_15 d_C_parent_18 (fun x hx => (hxt x hx).elim) (Nat.le_of_ble_eq_true rfl) (Nat.le_of_ble_eq_true rfl) rfl rfl hlk h.2.2 h.1 h.2.1
def w_L_parent (z mi mc ms : Nat) (post : Int32 → Sg → Prop) (g : Sg) (p0 : Option Nat) (p1 : Int32) (p2 : Int32) (p3 : Option Nat) : Prop := ∃ a11, p0 = some a11 ∧ (isK g a11 [4] ∧ ∃ c13 c14 : Nat, 0 + c13 ≤ mc ∧ 0 + c14 ≤ ms ∧ w_C_parent z mi c13 c14 (fun (x16 : Int32) (g15 : Sg) => ∃ a17, p3 = some a17 ∧ (∃ j19 : Nat, inA g15 a17 103 (0 : Int32) j19 ∧ ∀ g20 : Sg, g20 = sL g15 a17 j19 (x16.toInt64) → post (0 : Int32) g20)) (fun (i21 : Nat) (g22 : Sg) => (i21 = 0 ∧ post (1 : Int32) g22) ∨ (i21 = 1 ∧ post (2 : Int32) g22) ∨ (i21 = 2 ∧ post (3 : Int32) g22)) g a11 p1 p2)
set_option maxHeartbeats 4000000 in
set_option maxRecDepth 100000 in
theorem s_L_parent {l : Launch} {D : va_G} {cA : Nat → ClassId} {sz z mi mc ms : Nat} {g : Sg} {post : Int32 → Sg → Prop} {p0 : Option Nat} {p1 : Int32} {p2 : Int32} {p3 : Option Nat} (hst : l.stackTraces = false) (h : w_L_parent z mi mc ms post g p0 p1 p2 p3) : Met l y_L_parent (Cond.codeWith y_L_parent b_L_parent 5 (some FieldType.int) [(0, 10, 13, 13), (0, 10, 17, 15), (0, 10, 21, 17)] :: TBL) ({ frames := 7, cells := mc, slots := ms, locals := 170 } : Room) (Pg D cA sz z mi [va_rf p0, .int p1, .int p2, va_rf p3] g) (Qg D cA sz (pI post)) mc ms (oA sz) := by
  refine m_codeW (lv := [(0, va_rf p0), (1, .int p1), (2, .int p2), (3, va_rf p3)]) (by decide +kernel) (by simp [lg_sl, rf_cat, cat_i, cat_r, cat_l]) (by simp [lv_args, rf_cat, cat_i, cat_r, cat_l]) ?_
  intro p e s m below meth c ls htb S hr hlk hnm hZ hG hS hl
  obtain ⟨hx, hb, hml, hown, hts⟩ := id S
  have hk : 0 ≤ mc ∧ 0 ≤ ms := ⟨Nat.zero_le _, Nat.zero_le _⟩
  refine q_aload_n hx hb d_L_parent_0 rfl (lv_at hl 3 rfl) ?_
  refine lv_iconst (v := (0 : Int32)) hx hb d_L_parent_1 (by decide) ?_
  refine q_aload_n hx hb d_L_parent_2 rfl (lv_at hl 0 rfl) ?_
  refine lv_iload_n hx hb d_L_parent_3 rfl (lv_at hl 1 rfl) ?_
  refine lv_iload_n hx hb d_L_parent_4 rfl (lv_at hl 2 rfl) ?_
  obtain ⟨a11, e9, h⟩ := h
  subst e9
  have hl12 : lv_has ls 5 [(0, .ref a11), (1, .int p1), (2, .int p2), (3, va_rf p3)] := hl
  obtain ⟨h9, h⟩ := h
  obtain ⟨c13, c14, k1, k2, h⟩ := h
  obtain ⟨n9, h9⟩ := isK1 h9
  refine x_callI (xrun_V (As := [.int p1, .int p2]) (rest := [.int ((0 : Int32)), va_rf p3]) S hZ hG hS (s_C_parent hst h) tw_238 tw_235 tw_236 tw_237 tw_1 nk_C_parent h9 (by decide) rfl ⟨Nat.le_of_ble_eq_true rfl, Nat.le_of_ble_eq_true rfl⟩ rfl hl.1 rfl (by simp [rf_cat, cat_i, cat_r, cat_l]) d_L_parent_5 ⟨k1, k2⟩) hS (fun i9 ce q9 g22 H locs hi h30 hG hS hq1 hq2 hq3 => ?_) (fun x16 g15 H locs h29 hG hS => ?_)
  · have hk := And.intro k1 k2
    replace h := h30
    rcases h with ⟨rfl, h⟩ | ⟨rfl, h⟩ | ⟨rfl, h⟩
    · refine r_catch (i := 0) S hZ (by decide) [] ⟨0, 10, 13, 13⟩ [⟨0, 10, 17, 15⟩, ⟨0, 10, 21, 17⟩] htb (fun y hy => nomatch hy) (by decide) (by decide) tw_232 hq1 hq2 hq3 ?_
      refine q_astore (o := (some q9)) (lv' := [(0, .ref a11), (1, .int p1), (2, .int p2), (3, va_rf p3)]) hx hb d_L_parent_13 hl12 (by decide) (.k 0 rfl (by decide) (by decide) (.k 1 rfl (by decide) (by decide) (.k 2 rfl (by decide) (by decide) (.c 3 rfl (by decide) (rf_cat _) .e)))) (fun ls24 hl24 => ?_)
      refine lv_iconst (v := (1 : Int32)) hx hb d_L_parent_15 (by decide) ?_
      exact r_iret (v := (1 : Int32)) S hr hlk hG hS h hk.1 hk.2 d_L_parent_16
    · refine r_catch (i := 1) S hZ (by decide) [⟨0, 10, 13, 13⟩] ⟨0, 10, 17, 15⟩ [⟨0, 10, 21, 17⟩] htb (List.forall_mem_cons.mpr ⟨⟨by decide, 0, by decide, by decide, tw_232⟩, (fun y hy => nomatch hy)⟩) (by decide) (by decide) tw_233 hq1 hq2 hq3 ?_
      refine q_astore (o := (some q9)) (lv' := [(0, .ref a11), (1, .int p1), (2, .int p2), (3, va_rf p3)]) hx hb d_L_parent_17 hl12 (by decide) (.k 0 rfl (by decide) (by decide) (.k 1 rfl (by decide) (by decide) (.k 2 rfl (by decide) (by decide) (.c 3 rfl (by decide) (rf_cat _) .e)))) (fun ls26 hl26 => ?_)
      refine lv_iconst (v := (2 : Int32)) hx hb d_L_parent_19 (by decide) ?_
      exact r_iret (v := (2 : Int32)) S hr hlk hG hS h hk.1 hk.2 d_L_parent_20
    · refine r_catch (i := 2) S hZ (by decide) [⟨0, 10, 13, 13⟩, ⟨0, 10, 17, 15⟩] ⟨0, 10, 21, 17⟩ [] htb (List.forall_mem_cons.mpr ⟨⟨by decide, 0, by decide, by decide, tw_232⟩, (List.forall_mem_cons.mpr ⟨⟨by decide, 1, by decide, by decide, tw_233⟩, (fun y hy => nomatch hy)⟩)⟩) (by decide) (by decide) tw_234 hq1 hq2 hq3 ?_
      refine q_astore (o := (some q9)) (lv' := [(0, .ref a11), (1, .int p1), (2, .int p2), (3, va_rf p3)]) hx hb d_L_parent_21 hl12 (by decide) (.k 0 rfl (by decide) (by decide) (.k 1 rfl (by decide) (by decide) (.k 2 rfl (by decide) (by decide) (.c 3 rfl (by decide) (rf_cat _) .e)))) (fun ls28 hl28 => ?_)
      refine lv_iconst (v := (3 : Int32)) hx hb d_L_parent_23 (by decide) ?_
      exact r_iret (v := (3 : Int32)) S hr hlk hG hS h hk.1 hk.2 d_L_parent_24
  · have hk := And.intro k1 k2
    replace h := h29
    refine lv_i2l hx hb d_L_parent_8 rfl ?_
    obtain ⟨a17, e9, h⟩ := h
    subst e9
    have hl18 : lv_has ls 5 [(0, .ref a11), (1, .int p1), (2, .int p2), (3, .ref a17)] := hl12
    obtain ⟨j19, h9, h⟩ := h
    refine r_last S hZ hG hS h9 d_L_parent_9 (fun g20 H locs e9 hG hS => ?_)
    replace h := h g20 e9
    refine lv_goto (tgt := 25) hx hb d_L_parent_10 (by decide) ?_
    refine lv_iconst (v := (0 : Int32)) hx hb d_L_parent_25 (by decide) ?_
    exact r_iret (v := (0 : Int32)) S hr hlk hG hS h hk.1 hk.2 d_L_parent_26
