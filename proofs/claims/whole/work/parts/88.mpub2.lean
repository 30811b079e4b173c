section MPB
variable {z mi mc ms : Nat} {G G2 : AG} {M M0 M1 M2 : MA} {g g0 g1 g2 : Sg} {L : List Nat} {V W : Nat → Nat}
theorem pos_of1 {w : Int32} (h : ¬ w < 1) : ¬ w < 0 := fun h' => h (by
  rw [Int32.lt_iff_toInt_lt] at h' ⊢
  have e1 : (1 : Int32).toInt = 1 := rfl
  have e0 : (0 : Int32).toInt = 0 := rfl
  rw [e0] at h'; rw [e1]; omega)
theorem a_no1 {x y w : Int32} (h : x < 0) : ∀ a i n, ¬ arg1 x y w a i n := fun a i n h' => by
  rw [h'.1] at h; exact nI_pos (by have := h'.2.1; omega) h
theorem a_no2 {x y w : Int32} (h : (255 : Int32) < x) : ∀ a i n, ¬ arg1 x y w a i n := fun a i n h' => by
  have b255 : (255 : Int32) = nI 255 := rfl
  have := h'.2.1
  rw [h'.1, b255, nI_ltI (by omega) (by omega)] at h
  omega
theorem a_no3 {x y w : Int32} (h : w < 1) : ∀ a i n, ¬ arg1 x y w a i n := fun a i n h' => by
  have b1 : (1 : Int32) = nI 1 := rfl
  obtain ⟨-, -, -, -, h5, h6, h7⟩ := h'
  rw [h5, b1, nI_ltI (by omega) (by omega)] at h
  omega
theorem a_no4 {x y w : Int32} (h : (100 : Int32) < w) : ∀ a i n, ¬ arg1 x y w a i n := fun a i n h' => by
  have b100 : (100 : Int32) = nI 100 := rfl
  obtain ⟨-, -, -, -, h5, h6, h7⟩ := h'
  rw [h5, b100, nI_ltI (by omega) (by omega)] at h
  omega
theorem a_no5 {x y w : Int32} (h : y < 0) : ∀ a i n, ¬ arg1 x y w a i n := fun a i n h' => by
  rw [h'.2.2.1] at h; exact nI_pos h'.2.2.2.1 h
theorem a_yes {x y w : Int32} (h1 : ¬ x < 0) (h2 : ¬ (255 : Int32) < x) (h3 : ¬ w < 1) (h4 : ¬ (100 : Int32) < w) (h5 : ¬ y < 0) : ∃ a i n, arg1 x y w a i n := by
  have b255 : (255 : Int32) = nI 255 := rfl
  have b1 : (1 : Int32) = nI 1 := rfl
  have b100 : (100 : Int32) = nI 100 := rfl
  obtain ⟨a, ha, rfl⟩ := nI_of h1
  obtain ⟨i, hi, rfl⟩ := nI_of h5
  obtain ⟨n, hn, rfl⟩ := nI_of (pos_of1 h3)
  rw [b255, nI_ltI (by omega) ha] at h2
  rw [b1, nI_ltI hn (by omega)] at h3
  rw [b100, nI_ltI (by omega) hn] at h4
  exact ⟨a, i, n, rfl, by omega, rfl, hi, rfl, by omega, by omega⟩
theorem a_code {n : Nat} (hn : n ≤ 100) : (1114112 : Int32) - nI n = nI (1114112 - n) := by
  have : (1114112 : Int32) = nI 1114112 := by decide
  rw [this, pk_sub (by omega)]
def tn (r : Nat) : Int32 := if r = 3 then 1 else if r = 1 then 2 else if r = 4 then 3 else 4
theorem RMi.nil2 {M2 : MA} (hL : RMi G M [] g) (hd : MD M g M2 g2) : fI g2 54 M2.m = 0 := by
  rw [hd.j 54, hd.em]; exact hL.n
theorem hw_lim (hw : WF G) {s a : Nat} {G0 : AG} {L : List Nat} (h : au G a G0 s) : (seL G0 (vL G L)).length = (seL G (vL G L)).length := by rw [au_se h]
theorem t_Minsert (hw : WF G) (hR : RM G M g) (hho : M.ho = 8192) (hL : RMi G M L g) {x y c w : Int32} (hmc : 104 ≤ mc) (hms : 30 ≤ ms) (hms2 : ∀ a i n s G0, arg1 x y w a i n → arg2 c n → go1 G L x → i ≤ (seL G (vL G L)).length → rm1 G x n → au G a G0 s → 30 + mcost n (M.rl s) (G0.ct s) ≤ ms) {post : Int32 → Sg → Prop}
    (kx : ∀ r g2, oI G L x y c w r G → r ≠ 5 → RM G M g2 → RMi G M (if r = 3 then L else []) g2 → fM M g g2 → fI g2 56 M.m = tn r → post 0 g2)
    (kr : ∀ G2 M2 g2, oI G L x y c w 5 G2 → WF G2 → RM G2 M2 g2 → M2.ho = 8192 → RMi G2 M2 [] g2 → fM M g g2 → M2.m = M.m → M2.gr = M.gr → M2.f = M.f → (∀ s, s < 16 → M2.rw s = M.rw s ∨ hT g (M2.rw s) = none) → fI g2 56 M2.m = 0 → (∃ a i n s G0, arg1 x y w a i n ∧ au G a G0 s ∧ rm1 G x n ∧ G2.ne = G.ne + n ∧ rwP n s (G0.ct s) M M2) → post (nI (txL G2 G2.ne)) g2) : w_M_insert z mi mc ms post g M.m x y c w := by
  have hm := hR.k.m
  unfold w_M_insert
  refine ⟨hasI_of hm (by decide), ?_⟩
  rintro _ rfl
  have hR1 := hR.w56 M.m 0
  have hL1 := hL.w56 M.m 0
  have hf1 := fM.w56 M g M.m 0
  have h561 : fI (wI g 56 M.m 0) 56 M.m = 0 := by rw [fI_wI]; simp
  obtain ⟨g1, hg1⟩ : ∃ g1, g1 = wI g 56 M.m 0 := ⟨_, rfl⟩
  rw [← hg1] at hR1 hL1 hf1 h561 ⊢
  have ht1 : ∀ a, hT g1 a = hT g a := fun a => by rw [hg1]; rfl
  clear hg1
  refine ⟨⟨_, _, hR1.k.m, by decide⟩, mc, ms, by omega, by omega, ?_⟩
  have thr : ∀ (r : Nat) (g2 : Sg), oI G L x y c w r G → r = 3 ∨ r = 1 ∨ r = 4 ∨ r = 2 → RM G M g2 → RMi G M (if r = 3 then L else []) g2 → fM M g g2 → (r = 1 ∧ (hasI g2 M.m 56 ∧ ∀ g20 : Sg, g20 = wI g2 56 M.m (2 : Int32) → post (0 : Int32) g20)) ∨ (r = 2 ∧ (hasI g2 M.m 56 ∧ ∀ g23 : Sg, g23 = wI g2 56 M.m (4 : Int32) → post (0 : Int32) g23)) ∨ (r = 3 ∧ (hasI g2 M.m 56 ∧ ∀ g26 : Sg, g26 = wI g2 56 M.m (1 : Int32) → post (0 : Int32) g26)) ∨ (r = 4 ∧ (hasI g2 M.m 56 ∧ ∀ g29 : Sg, g29 = wI g2 56 M.m (3 : Int32) → post (0 : Int32) g29)) := by
    intro r g2 ho hr hR2 hL2 hf2
    have fin : ∀ v, v = tn r → hasI g2 M.m 56 ∧ ∀ g20 : Sg, g20 = wI g2 56 M.m v → post (0 : Int32) g20 := by
      intro v hv
      refine ⟨hasI_of hR2.k.m (by decide), ?_⟩
      rintro _ rfl
      exact kx r _ ho (by omega) (hR2.w56 M.m v) (hL2.w56 M.m v) (hf2.trans (fM.w56 M g2 M.m v)) (by rw [fI_wI, ← hv]; simp)
    rcases hr with rfl | rfl | rfl | rfl
    · exact Or.inr (Or.inr (Or.inl ⟨rfl, fin 1 rfl⟩))
    · exact Or.inl ⟨rfl, fin 2 rfl⟩
    · exact Or.inr (Or.inr (Or.inr ⟨rfl, fin 3 rfl⟩))
    · exact Or.inr (Or.inl ⟨rfl, fin 4 rfl⟩)
  have good : ∀ a i n, arg1 x y w a i n → arg2 c n → w_M_insert0_44 z mi mc ms (fun (x15 : Int32) (g14 : Sg) => post x15 g14) (fun (r : Nat) (g2 : Sg) => (r = 1 ∧ (hasI g2 M.m 56 ∧ ∀ g20 : Sg, g20 = wI g2 56 M.m (2 : Int32) → post (0 : Int32) g20)) ∨ (r = 2 ∧ (hasI g2 M.m 56 ∧ ∀ g23 : Sg, g23 = wI g2 56 M.m (4 : Int32) → post (0 : Int32) g23)) ∨ (r = 3 ∧ (hasI g2 M.m 56 ∧ ∀ g26 : Sg, g26 = wI g2 56 M.m (1 : Int32) → post (0 : Int32) g26)) ∨ (r = 4 ∧ (hasI g2 M.m 56 ∧ ∀ g29 : Sg, g29 = wI g2 56 M.m (3 : Int32) → post (0 : Int32) g29))) 0 0 g1 M.m x y c w 1 := by
    intro a i n h1 h2
    obtain ⟨rfl, ha, rfl, hi, rfl, hn1, hn⟩ := id h1
    have hse := seL_le (V := vL G L) hw
    unfold w_M_insert0_44
    refine ⟨0, 0, by omega, by omega, ?_⟩
    unfold w_M_check
    refine ⟨fun _ => ?_, fun h => absurd h (by decide)⟩
    refine ⟨⟨_, _, hR1.k.m, by decide⟩, 2, 12, by omega, by omega, ?_⟩
    refine t_open hw hR1 hL1 (by omega) (by omega) (fun h3 g2 hR2 hL2 hf2 _ => thr 1 g2 (Or.inr ⟨a, i, n, h1, h2, Or.inl ⟨rfl, rfl, h3⟩⟩) (by omega) hR2 hL2 (hf1.trans hf2)) (fun h3 g2 hR2 hL2 hf2 h56 hV2 => ?_)
    rw [nI_leI hi (by omega)]
    refine ⟨fun h4 => ?_, fun h4 => ⟨by omega, by omega, thr 4 g2 (Or.inr ⟨a, i, n, h1, h2, Or.inr ⟨h3, Or.inl ⟨rfl, rfl, h4⟩⟩⟩) (by omega) hR2 hL2 (hf1.trans hf2)⟩⟩
    refine ⟨⟨_, _, hR2.k.m, by decide⟩, 1, 6, by omega, by omega, ?_⟩
    refine t_room hw hR2 hn (by omega) (by omega) (fun h5 => ?_) (fun h5 => thr 2 g2 (Or.inr ⟨a, i, n, h1, h2, Or.inr ⟨h3, Or.inr ⟨h4, Or.inl ⟨rfl, rfl, h5⟩⟩⟩⟩) (by omega) hR2 hL2 (hf1.trans hf2))
    have hau : ∃ s G0, au G a G0 s := by
      by_cases hex : ∃ t, t < G.na ∧ G.nm t = a
      · obtain ⟨t, ht, htx⟩ := hex; exact ⟨t, G, Or.inl ⟨ht, htx, rfl⟩⟩
      · exact ⟨G.na, addA G a, Or.inr ⟨fun t ht e => hex ⟨t, ht, e⟩, rfl, rfl⟩⟩
    obtain ⟨s, G0, hau⟩ := hau
    obtain ⟨hw0, ok⟩ := ed_ok hw hL.lt h1 h3 h5 hau
    have hms3 := hms2 a i n s G0 h1 h2 h3 h4 h5 hau
    refine ⟨_, t_i74 ha (by omega) hn n 0 G G0 M g2 (vL G L) _ _ (by omega) hw hR2 hho hau hw0 (fun h => absurd h (by omega)) (fun _ => ok) hV2 (by rw [hw_lim hw hau]; omega) h5.1 (by omega) (by omega) (fun G2 M2 g3 hr hw2 hR3 hh3 hmd hrp hn2 => ?_)⟩
    have e0 : fI g3 54 M2.m = 0 := by rw [hmd.j 54, hmd.em]; exact hL2.n
    refine kr G2 M2 g3 (Or.inr ⟨a, i, n, h1, h2, Or.inr ⟨h3, Or.inr ⟨h4, Or.inr ⟨rfl, h5, s, G0, hau, hr⟩⟩⟩⟩) hw2 hR3 hh3 (RMi.nil hR3 e0) ((hf1.trans hf2).trans hmd.m) hmd.em hmd.eg hmd.ef (fun t ht => ?_) (by rw [hmd.j 56, hmd.em, h56]; exact h561) ⟨a, i, n, s, G0, h1, hau, h5, hn2, hrp⟩
    rcases hmd.er t ht with q | q
    · exact Or.inl q
    · right
      cases h0 : hT g (M2.rw t) with
      | none => rfl
      | some yy => exact absurd (((hf1.trans hf2).t _ (nn h0)).trans h0) (by rw [q]; exact fun h => nomatch h)
  have bad : (∀ a i n, arg1 x y w a i n → ¬ arg2 c n) → w_M_insert0_43 z mi mc ms (fun (x15 : Int32) (g14 : Sg) => post x15 g14) (fun (r : Nat) (g2 : Sg) => (r = 1 ∧ (hasI g2 M.m 56 ∧ ∀ g20 : Sg, g20 = wI g2 56 M.m (2 : Int32) → post (0 : Int32) g20)) ∨ (r = 2 ∧ (hasI g2 M.m 56 ∧ ∀ g23 : Sg, g23 = wI g2 56 M.m (4 : Int32) → post (0 : Int32) g23)) ∨ (r = 3 ∧ (hasI g2 M.m 56 ∧ ∀ g26 : Sg, g26 = wI g2 56 M.m (1 : Int32) → post (0 : Int32) g26)) ∨ (r = 4 ∧ (hasI g2 M.m 56 ∧ ∀ g29 : Sg, g29 = wI g2 56 M.m (3 : Int32) → post (0 : Int32) g29))) 0 0 g1 M.m x y c w := by
    intro h
    unfold w_M_insert0_43 w_M_insert0_44
    refine ⟨1, 6, by omega, by omega, ?_⟩
    unfold w_M_check
    exact ⟨fun h => absurd rfl h, fun _ => ⟨by omega, by omega, thr 3 g1 (Or.inl ⟨rfl, rfl, h⟩) (by omega) hR1 hL1 hf1⟩⟩
  have bad1 : ∀ {P : Prop}, P → (P → ∀ a i n, ¬ arg1 x y w a i n) → ∀ a i n, arg1 x y w a i n → ¬ arg2 c n := fun p h a i n q => absurd q (h p a i n)
  unfold w_M_insert0
  refine ⟨0, 0, by omega, by omega, ?_⟩
  unfold w_M_in
  refine ⟨fun q1 => ⟨fun _ => bad (bad1 q1 a_no1), fun h => absurd rfl h⟩, fun q1 => ⟨fun q2 => ⟨fun _ => bad (bad1 q2 a_no2), fun h => absurd rfl h⟩, fun q2 => ⟨fun h => absurd h (by decide), fun _ => ⟨0, 0, by omega, by omega, ?_⟩⟩⟩⟩
  refine ⟨fun q3 => ⟨fun _ => bad (bad1 q3 a_no3), fun h => absurd rfl h⟩, fun q3 => ⟨fun q4 => ⟨fun _ => bad (bad1 q4 a_no4), fun h => absurd rfl h⟩, fun q4 => ⟨fun h => absurd h (by decide), fun _ => ⟨0, 0, by omega, by omega, ?_⟩⟩⟩⟩
  have cb : ∀ a i n, arg1 x y w a i n → ((1114112 : Int32) - w = nI (1114112 - n)) := fun a i n h => by rw [h.2.2.2.2.1]; exact a_code h.2.2.2.2.2.2
  refine ⟨fun q5 => ⟨fun _ => bad (fun a i n h h' => h'.1 q5), fun h => absurd rfl h⟩, fun q5 => ⟨fun q6 => ⟨fun _ => bad (fun a i n h h' => h'.2 (by rw [← cb a i n h]; exact q6)), fun h => absurd rfl h⟩, fun q6 => ⟨fun h => absurd h (by decide), fun _ => ⟨fun q7 => bad (bad1 q7 a_no5), fun q7 => ?_⟩⟩⟩⟩
  obtain ⟨a, i, n, h⟩ := a_yes q1 q2 q3 q4 q7
  exact good a i n h ⟨q5, by rw [← cb a i n h]; exact q6⟩
theorem t_Mdelete (hw : WF G) (hR : RM G M g) (hho : M.ho = 8192) (hL : RMi G M L g) {x y w : Int32} (hmc : 104 ≤ mc) (hms : 30 ≤ ms) (hms2 : ∀ a i n s G0, arg1 x y w a i n → go1 G L x → i + n ≤ (seL G (vL G L)).length → rm1 G x n → au G a G0 s → 30 + mcost n (M.rl s) (G0.ct s) ≤ ms) {post : Int32 → Sg → Prop}
    (kx : ∀ r g2, oD G L x y w r G → r ≠ 5 → RM G M g2 → RMi G M (if r = 3 then L else []) g2 → fM M g g2 → fI g2 56 M.m = tn r → post 0 g2)
    (kr : ∀ G2 M2 g2, oD G L x y w 5 G2 → WF G2 → RM G2 M2 g2 → M2.ho = 8192 → RMi G2 M2 [] g2 → fM M g g2 → M2.m = M.m → M2.gr = M.gr → M2.f = M.f → (∀ s, s < 16 → M2.rw s = M.rw s ∨ hT g (M2.rw s) = none) → fI g2 56 M2.m = 0 → (∃ a i n s G0, arg1 x y w a i n ∧ au G a G0 s ∧ rm1 G x n ∧ G2.ne = G.ne + n ∧ rwP n s (G0.ct s) M M2) → post (nI (txL G2 G2.ne)) g2) : w_M_delete z mi mc ms post g M.m x y w := by
  have hm := hR.k.m
  unfold w_M_delete
  refine ⟨hasI_of hm (by decide), ?_⟩
  rintro _ rfl
  have hR1 := hR.w56 M.m 0
  have hL1 := hL.w56 M.m 0
  have hf1 := fM.w56 M g M.m 0
  have h561 : fI (wI g 56 M.m 0) 56 M.m = 0 := by rw [fI_wI]; simp
  obtain ⟨g1, hg1⟩ : ∃ g1, g1 = wI g 56 M.m 0 := ⟨_, rfl⟩
  rw [← hg1] at hR1 hL1 hf1 h561 ⊢
  have ht1 : ∀ a, hT g1 a = hT g a := fun a => by rw [hg1]; rfl
  clear hg1
  refine ⟨⟨_, _, hR1.k.m, by decide⟩, mc, ms, by omega, by omega, ?_⟩
  have thr : ∀ (r : Nat) (g2 : Sg), oD G L x y w r G → r = 3 ∨ r = 1 ∨ r = 4 ∨ r = 2 → RM G M g2 → RMi G M (if r = 3 then L else []) g2 → fM M g g2 → (r = 1 ∧ (hasI g2 M.m 56 ∧ ∀ g20 : Sg, g20 = wI g2 56 M.m (2 : Int32) → post (0 : Int32) g20)) ∨ (r = 2 ∧ (hasI g2 M.m 56 ∧ ∀ g23 : Sg, g23 = wI g2 56 M.m (4 : Int32) → post (0 : Int32) g23)) ∨ (r = 3 ∧ (hasI g2 M.m 56 ∧ ∀ g26 : Sg, g26 = wI g2 56 M.m (1 : Int32) → post (0 : Int32) g26)) ∨ (r = 4 ∧ (hasI g2 M.m 56 ∧ ∀ g29 : Sg, g29 = wI g2 56 M.m (3 : Int32) → post (0 : Int32) g29)) := by
    intro r g2 ho hr hR2 hL2 hf2
    have fin : ∀ v, v = tn r → hasI g2 M.m 56 ∧ ∀ g20 : Sg, g20 = wI g2 56 M.m v → post (0 : Int32) g20 := by
      intro v hv
      refine ⟨hasI_of hR2.k.m (by decide), ?_⟩
      rintro _ rfl
      exact kx r _ ho (by omega) (hR2.w56 M.m v) (hL2.w56 M.m v) (hf2.trans (fM.w56 M g2 M.m v)) (by rw [fI_wI, ← hv]; simp)
    rcases hr with rfl | rfl | rfl | rfl
    · exact Or.inr (Or.inr (Or.inl ⟨rfl, fin 1 rfl⟩))
    · exact Or.inl ⟨rfl, fin 2 rfl⟩
    · exact Or.inr (Or.inr (Or.inr ⟨rfl, fin 3 rfl⟩))
    · exact Or.inr (Or.inl ⟨rfl, fin 4 rfl⟩)
  have good : ∀ a i n, arg1 x y w a i n → w_M_delete0_30 z mi mc ms (fun (x15 : Int32) (g14 : Sg) => post x15 g14) (fun (r : Nat) (g2 : Sg) => (r = 1 ∧ (hasI g2 M.m 56 ∧ ∀ g20 : Sg, g20 = wI g2 56 M.m (2 : Int32) → post (0 : Int32) g20)) ∨ (r = 2 ∧ (hasI g2 M.m 56 ∧ ∀ g23 : Sg, g23 = wI g2 56 M.m (4 : Int32) → post (0 : Int32) g23)) ∨ (r = 3 ∧ (hasI g2 M.m 56 ∧ ∀ g26 : Sg, g26 = wI g2 56 M.m (1 : Int32) → post (0 : Int32) g26)) ∨ (r = 4 ∧ (hasI g2 M.m 56 ∧ ∀ g29 : Sg, g29 = wI g2 56 M.m (3 : Int32) → post (0 : Int32) g29))) 0 0 g1 M.m x y w 1 := by
    intro a i n h1
    obtain ⟨rfl, ha, rfl, hi, rfl, hn1, hn⟩ := id h1
    have hse := seL_le (V := vL G L) hw
    unfold w_M_delete0_30
    refine ⟨0, 0, by omega, by omega, ?_⟩
    unfold w_M_check
    refine ⟨fun _ => ?_, fun h => absurd h (by decide)⟩
    refine ⟨⟨_, _, hR1.k.m, by decide⟩, 2, 12, by omega, by omega, ?_⟩
    refine t_open hw hR1 hL1 (by omega) (by omega) (fun h3 g2 hR2 hL2 hf2 _ => thr 1 g2 (Or.inr ⟨a, i, n, h1, trivial, Or.inl ⟨rfl, rfl, h3⟩⟩) (by omega) hR2 hL2 (hf1.trans hf2)) (fun h3 g2 hR2 hL2 hf2 h56 hV2 => ?_)
    have hlim : nI i ≤ nI (seL G (vL G L)).length - nI n ↔ i + n ≤ (seL G (vL G L)).length := by
      rw [Int32.le_iff_toInt_le, nI_toInt hi, pk_sub_toInt (by omega) (by omega)]
      omega
    rw [hlim]
    refine ⟨fun h4 => ?_, fun h4 => ⟨by omega, by omega, thr 4 g2 (Or.inr ⟨a, i, n, h1, trivial, Or.inr ⟨h3, Or.inl ⟨rfl, rfl, h4⟩⟩⟩) (by omega) hR2 hL2 (hf1.trans hf2)⟩⟩
    refine ⟨⟨_, _, hR2.k.m, by decide⟩, 1, 6, by omega, by omega, ?_⟩
    refine t_room hw hR2 hn (by omega) (by omega) (fun h5 => ?_) (fun h5 => thr 2 g2 (Or.inr ⟨a, i, n, h1, trivial, Or.inr ⟨h3, Or.inr ⟨h4, Or.inl ⟨rfl, rfl, h5⟩⟩⟩⟩) (by omega) hR2 hL2 (hf1.trans hf2))
    have hau : ∃ s G0, au G a G0 s := by
      by_cases hex : ∃ t, t < G.na ∧ G.nm t = a
      · obtain ⟨t, ht, htx⟩ := hex; exact ⟨t, G, Or.inl ⟨ht, htx, rfl⟩⟩
      · exact ⟨G.na, addA G a, Or.inr ⟨fun t ht e => hex ⟨t, ht, e⟩, rfl, rfl⟩⟩
    obtain ⟨s, G0, hau⟩ := hau
    obtain ⟨hw0, ok⟩ := ed_ok hw hL.lt h1 h3 h5 hau
    have hms3 := hms2 a i n s G0 h1 h3 h4 h5 hau
    refine ⟨_, t_d61 ha (by omega) hn n 0 G G0 M g2 (vL G L) _ _ (by omega) hw hR2 hho hau hw0 (fun h => absurd h (by omega)) (fun _ => ok) hV2 (by rw [hw_lim hw hau]; omega) h5.1 (by omega) (by omega) (fun G2 M2 g3 hr hw2 hR3 hh3 hmd hrp hn2 => ?_)⟩
    have e0 : fI g3 54 M2.m = 0 := by rw [hmd.j 54, hmd.em]; exact hL2.n
    refine kr G2 M2 g3 (Or.inr ⟨a, i, n, h1, trivial, Or.inr ⟨h3, Or.inr ⟨h4, Or.inr ⟨rfl, h5, s, G0, hau, hr⟩⟩⟩⟩) hw2 hR3 hh3 (RMi.nil hR3 e0) ((hf1.trans hf2).trans hmd.m) hmd.em hmd.eg hmd.ef (fun t ht => ?_) (by rw [hmd.j 56, hmd.em, h56]; exact h561) ⟨a, i, n, s, G0, h1, hau, h5, hn2, hrp⟩
    rcases hmd.er t ht with q | q
    · exact Or.inl q
    · right
      cases h0 : hT g (M2.rw t) with
      | none => rfl
      | some yy => exact absurd (((hf1.trans hf2).t _ (nn h0)).trans h0) (by rw [q]; exact fun h => nomatch h)
  have bad : (∀ a i n, ¬ arg1 x y w a i n) → w_M_delete0_29 z mi mc ms (fun (x15 : Int32) (g14 : Sg) => post x15 g14) (fun (r : Nat) (g2 : Sg) => (r = 1 ∧ (hasI g2 M.m 56 ∧ ∀ g20 : Sg, g20 = wI g2 56 M.m (2 : Int32) → post (0 : Int32) g20)) ∨ (r = 2 ∧ (hasI g2 M.m 56 ∧ ∀ g23 : Sg, g23 = wI g2 56 M.m (4 : Int32) → post (0 : Int32) g23)) ∨ (r = 3 ∧ (hasI g2 M.m 56 ∧ ∀ g26 : Sg, g26 = wI g2 56 M.m (1 : Int32) → post (0 : Int32) g26)) ∨ (r = 4 ∧ (hasI g2 M.m 56 ∧ ∀ g29 : Sg, g29 = wI g2 56 M.m (3 : Int32) → post (0 : Int32) g29))) 0 0 g1 M.m x y w := by
    intro h
    unfold w_M_delete0_29 w_M_delete0_30
    refine ⟨1, 6, by omega, by omega, ?_⟩
    unfold w_M_check
    exact ⟨fun h => absurd rfl h, fun _ => ⟨by omega, by omega, thr 3 g1 (Or.inl ⟨rfl, rfl, fun a i n h' _ => h a i n h'⟩) (by omega) hR1 hL1 hf1⟩⟩
  unfold w_M_delete0
  refine ⟨0, 0, by omega, by omega, ?_⟩
  unfold w_M_in
  refine ⟨fun q1 => ⟨fun _ => bad (a_no1 q1), fun h => absurd rfl h⟩, fun q1 => ⟨fun q2 => ⟨fun _ => bad (a_no2 q2), fun h => absurd rfl h⟩, fun q2 => ⟨fun h => absurd h (by decide), fun _ => ⟨0, 0, by omega, by omega, ?_⟩⟩⟩⟩
  refine ⟨fun q3 => ⟨fun _ => bad (a_no3 q3), fun h => absurd rfl h⟩, fun q3 => ⟨fun q4 => ⟨fun _ => bad (a_no4 q4), fun h => absurd rfl h⟩, fun q4 => ⟨fun h => absurd h (by decide), fun _ => ⟨fun q7 => bad (a_no5 q7), fun q7 => ?_⟩⟩⟩⟩
  obtain ⟨a, i, n, h⟩ := a_yes q1 q2 q3 q4 q7
  exact good a i n h
end MPB
