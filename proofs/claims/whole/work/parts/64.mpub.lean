section MP
variable {z mi mc ms : Nat} {G : AG} {M : MA} {g : Sg} {L : List Nat} {V : Nat → Nat}
theorem RM.w56 (hR : RM G M g) (a : Nat) (v : Int32) : RM G M (wI g 56 a v) := by
  have e : ∀ f, f ≠ 56 → fI (wI g 56 a v) f = fI g f := fun f hf => fI_wI_ne _ _ _ hf
  refine RM.mk hR.k (RMf.mk hR.f.g hR.f.f hR.f.l hR.f.t hR.f.s hR.f.rw) ?_
  refine RMc.mk ?_ ?_ ?_ ?_ hR.c.nm hR.c.ct hR.c.ev hR.c.rl hR.c.sl hR.c.nu hR.c.pa hR.c.ins hR.c.cd hR.c.lc hR.c.rch hR.c.de hR.c.ord
  · rw [e 29 (by decide)]; exact hR.c.ne
  · rw [e 30 (by decide)]; exact hR.c.na
  · rw [e 31 (by decide)]; exact hR.c.no
  · rw [e 46 (by decide)]; exact hR.c.rc
theorem RMi.w56 (hL : RMi G M L g) (a : Nat) (v : Int32) : RMi G M L (wI g 56 a v) := RMi.mk (by rw [fI_wI_ne _ _ _ (by decide)]; exact hL.n) hL.le hL.lt hL.nd hL.at
def fM (M : MA) (g g2 : Sg) : Prop := (∀ a, hT g a ≠ none → hT g2 a = hT g a) ∧ (∀ f a, f < 29 → hT g a ≠ none → fI g2 f a = fI g f a) ∧ (∀ f a, f < 29 → hT g a ≠ none → fR g2 f a = fR g f a) ∧ (∀ a, hT g a ≠ none → (∀ i, isF i → a ≠ M.f i) → (∀ s, s < 16 → a ≠ M.rw s) → aI g2 a = aI g a) ∧ (∀ a k n, hT g a = some (k, n) → k ≠ 107 → aR g2 a = aR g a) ∧ (∀ a, hT g a ≠ none → aL g2 a = aL g a)
theorem fM.t {M : MA} {g g2 : Sg} (h : fM M g g2) : ∀ a, hT g a ≠ none → hT g2 a = hT g a := h.1
theorem fM.i {M : MA} {g g2 : Sg} (h : fM M g g2) : ∀ f a, f < 29 → hT g a ≠ none → fI g2 f a = fI g f a := h.2.1
theorem fM.r {M : MA} {g g2 : Sg} (h : fM M g g2) : ∀ f a, f < 29 → hT g a ≠ none → fR g2 f a = fR g f a := h.2.2.1
theorem fM.ai {M : MA} {g g2 : Sg} (h : fM M g g2) : ∀ a, hT g a ≠ none → (∀ i, isF i → a ≠ M.f i) → (∀ s, s < 16 → a ≠ M.rw s) → aI g2 a = aI g a := h.2.2.2.1
theorem fM.ar {M : MA} {g g2 : Sg} (h : fM M g g2) : ∀ a k n, hT g a = some (k, n) → k ≠ 107 → aR g2 a = aR g a := h.2.2.2.2.1
theorem fM.al {M : MA} {g g2 : Sg} (h : fM M g g2) : ∀ a, hT g a ≠ none → aL g2 a = aL g a := h.2.2.2.2.2
theorem fM.mk {M : MA} {g g2 : Sg} (h0 : ∀ a, hT g a ≠ none → hT g2 a = hT g a) (h1 : ∀ f a, f < 29 → hT g a ≠ none → fI g2 f a = fI g f a) (h2 : ∀ f a, f < 29 → hT g a ≠ none → fR g2 f a = fR g f a) (h3 : ∀ a, hT g a ≠ none → (∀ i, isF i → a ≠ M.f i) → (∀ s, s < 16 → a ≠ M.rw s) → aI g2 a = aI g a) (h4 : ∀ a k n, hT g a = some (k, n) → k ≠ 107 → aR g2 a = aR g a) (h5 : ∀ a, hT g a ≠ none → aL g2 a = aL g a) : fM M g g2 := ⟨h0, h1, h2, h3, h4, h5⟩
theorem fM.w56 (M : MA) (g : Sg) (a : Nat) (v : Int32) : fM M g (wI g 56 a v) := fM.mk (fun _ _ => rfl) (fun f q hf _ => by rw [fI_wI_ne _ _ _ (by omega)]) (fun _ _ _ _ => rfl) (fun _ _ _ _ => rfl) (fun _ _ _ _ _ => rfl) (fun _ _ => rfl)
theorem fM.w56b (M : MA) (g : Sg) (a b : Nat) (v w : Int32) : fM M g (wI (wI g 56 a v) 56 b w) := fM.mk (fun _ _ => rfl) (fun f q hf _ => by rw [fI_wI_ne _ _ _ (by omega), fI_wI_ne _ _ _ (by omega)]) (fun _ _ _ _ => rfl) (fun _ _ _ _ => rfl) (fun _ _ _ _ _ => rfl) (fun _ _ => rfl)
theorem t_thrown (hR : RM G M g) {v : Int32} (hv : fI g 56 M.m = v) {post : Int32 → Sg → Prop} (k : post v g) : w_M_thrown z mi mc ms post g M.m := by
  have hm := hR.k.m
  unfold w_M_thrown
  (refine ⟨?_, ?_⟩; (focus (first | exact hasI_of (by assumption) (by decide) | exact hasR_of (by assumption) (by decide))); rintro _ rfl; try rw [hv])
  exact k
theorem t_Mlength (hw : WF G) (hR : RM G M g) {post : Int32 → Sg → Prop} (k : post (nI (txL G G.ne)) (wI g 56 M.m 0)) : w_M_length z mi mc ms post g M.m := by
  have hm := hR.k.m
  unfold w_M_length
  refine ⟨hasI_of hm (by decide), ?_⟩
  rintro _ rfl
  have hR1 := hR.w56 M.m 0
  refine ⟨⟨_, _, hR1.k.m, by decide⟩, 0, 0, by omega, by omega, ?_⟩
  unfold w_M_length0
  refine ⟨hasR_of hR1.k.m (by decide), ?_⟩
  rintro _ rfl
  rw [hR1.f.g]
  refine ⟨_, rfl, ?_⟩
  refine ⟨⟨_, _, hR1.k.gr, by decide⟩, 0, 0, by omega, by omega, ?_⟩
  exact t_mlength hw hR1 k
theorem in_lem {lo : Nat} {y hi : Int32} {post : Int32 → Sg → Prop} (k1 : ¬ y < 0 → ¬ hi < y → post 1 g) (k0 : y < 0 ∨ hi < y → post 0 g) : w_M_in z mi mc ms post g y 0 hi := by
  unfold w_M_in
  exact ⟨fun h => k0 (Or.inl h), fun h => ⟨fun h' => k0 (Or.inr h'), fun h' => k1 h h'⟩⟩
theorem len_lt {n j : Nat} (hn : n < 2 ^ 30) (hj : j < 2 ^ 31) : nI n - 1 < nI j ↔ n ≤ j := by
  have e1 : (1 : Int32) = nI 1 := rfl
  rw [e1, Int32.lt_iff_toInt_lt, nI_toInt hj, pk_sub_toInt hn (by decide)]
  omega
theorem tx_pos (hw : WF G) {n i x : Nat} (h : (tx G n)[i]? = some x) : ∃ e, x = e + 1 ∧ e < G.ne ∧ G.ins e = true := by
  have hm := List.mem_of_getElem? h
  have hm' := List.mem_filter.mp hm
  have hx0 : x ≠ 0 := fun h0 => by rw [h0, tb_0] at hm'; exact absurd hm'.2 (by decide)
  rcases (hw.mem x).mp hm'.1 with h0 | h1
  · exact absurd h0 hx0
  · exact h1
theorem t_shown (hw : WF G) (hR : RM G M g) {y : Int32} (hmc : 1 ≤ mc) (hms : 6 ≤ ms) {post : Int32 → Sg → Prop} {px : Nat → Sg → Prop} (kr : ∀ e, tA G G.ne y e → e < G.ne → G.ins e = true → post (nI e) g) (kx : (∀ e, ¬ tA G G.ne y e) → px 4 g) : w_M_shown z mi mc ms post px g M.m y := by
  have hm := hR.k.m
  have hgr := hR.k.gr
  have hlen := txL_le (n := G.ne) hw
  unfold w_M_shown
  (refine ⟨?_, ?_⟩; (focus (first | exact hasI_of (by assumption) (by decide) | exact hasR_of (by assumption) (by decide))); rintro _ rfl; try rw [hR.f.g])
  refine ⟨_, rfl, ?_⟩
  refine ⟨⟨_, _, by assumption, by decide⟩, 0, 0, by omega, by omega, ?_⟩
  refine t_mlength hw hR ?_
  refine ⟨0, 0, by omega, by omega, ?_⟩
  refine in_lem (lo := 0) (fun h1 h2 => ⟨fun _ => ?_, fun h => absurd h (by decide)⟩) (fun h => ⟨fun h => absurd rfl h, fun _ => ⟨by omega, by omega, kx (fun e he => ?_)⟩⟩)
  · obtain ⟨j, hj, rfl⟩ := nI_of h1
    rw [len_lt (by omega) hj] at h2
    (refine ⟨?_, ?_⟩; (focus (first | exact hasI_of (by assumption) (by decide) | exact hasR_of (by assumption) (by decide))); rintro _ rfl; try rw [hR.f.g])
    refine ⟨_, rfl, ?_⟩
    refine ⟨⟨_, _, by assumption, by decide⟩, 0, 0, by omega, by omega, ?_⟩
    exact t_shownAt hw hR (by omega) (fun e h3 he hi => kr e ⟨j, rfl, hj, h3⟩ he hi)
  · obtain ⟨j, rfl, hj, h3⟩ := he
    have hlt := (List.getElem?_eq_some_iff.mp h3).1
    rw [tx_len] at hlt
    rcases h with h | h
    · exact nI_pos hj h
    · rw [len_lt (by omega) hj] at h
      omega
theorem t_Mat (hw : WF G) (hR : RM G M g) {y : Int32} (hmc : 1 ≤ mc) (hms : 6 ≤ ms) {post : Int32 → Sg → Prop} (kr : ∀ e, tA G G.ne y e → post (G.cd e) (wI g 56 M.m 0)) (kx : (∀ e, ¬ tA G G.ne y e) → post 0 (wI (wI g 56 M.m 0) 56 M.m 1)) : w_M_at z mi mc ms post g M.m y := by
  have hm := hR.k.m
  have hne := hw.ne_le
  unfold w_M_at
  refine ⟨hasI_of hm (by decide), ?_⟩
  rintro _ rfl
  have hR1 := hR.w56 M.m 0
  refine ⟨⟨_, _, hR1.k.m, by decide⟩, 1, 6, by omega, by omega, ?_⟩
  unfold w_M_at0
  refine ⟨hasR_of hR1.k.m (by decide), ?_⟩
  rintro _ rfl
  rw [hR1.f.g]
  refine ⟨_, rfl, ?_⟩
  refine ⟨hasR_of hR1.k.gr (by decide), ?_⟩
  rintro _ rfl
  rw [hR1.f.f 40 (by decide)]
  refine ⟨⟨_, _, hR1.k.m, by decide⟩, 1, 6, by omega, by omega, ?_⟩
  refine t_shown hw hR1 (by omega) (by omega) (fun e ht he hi => ?_) (fun h => ⟨rfl, hasI_of hR1.k.m (by decide), ?_⟩)
  · refine ⟨_, rfl, ?_⟩
    refine ⟨e, ⟨_, hR1.kf 40 (by decide) rfl, rfl, by omega, by decide⟩, ?_⟩
    rintro _ rfl
    rw [hR1.c.cd e he hi]
    exact kr e ht
  · rintro _ rfl
    exact kx h
theorem t_Mwho (hw : WF G) (hR : RM G M g) {y : Int32} (hmc : 1 ≤ mc) (hms : 6 ≤ ms) {post : Int64 → Sg → Prop} (kr : ∀ e, tA G G.ne y e → post ((4294967296 : Int64) * (nI (G.nm (G.sl e))).toInt64 + (nI (G.nu e)).toInt64) (wI g 56 M.m 0)) (kx : (∀ e, ¬ tA G G.ne y e) → post 0 (wI (wI g 56 M.m 0) 56 M.m 1)) : w_M_who z mi mc ms post g M.m y := by
  have hm := hR.k.m
  have hne := hw.ne_le
  have hna := hw.na_le
  unfold w_M_who
  refine ⟨hasI_of hm (by decide), ?_⟩
  rintro _ rfl
  have hR1 := hR.w56 M.m 0
  have hm1 := hR1.k.m
  have hg1 := hR1.k.gr
  refine ⟨⟨_, _, hm1, by decide⟩, 1, 6, by omega, by omega, ?_⟩
  unfold w_M_who0
  refine ⟨⟨_, _, hm1, by decide⟩, 1, 6, by omega, by omega, ?_⟩
  refine t_shown hw hR1 (by omega) (by omega) (fun e ht he hi => ?_) (fun h => ⟨rfl, hasI_of hm1 (by decide), ?_⟩)
  · have hs := hw.sl_lt e he
    (refine ⟨?_, ?_⟩; (focus (first | exact hasI_of (by assumption) (by decide) | exact hasR_of (by assumption) (by decide))); rintro _ rfl; try rw [hR1.f.g])
    refine ⟨_, rfl, ?_⟩
    (refine ⟨?_, ?_⟩; (focus (first | exact hasI_of (by assumption) (by decide) | exact hasR_of (by assumption) (by decide))); rintro _ rfl; try rw [hR1.f.f 32 (by decide)])
    (refine ⟨?_, ?_⟩; (focus (first | exact hasI_of (by assumption) (by decide) | exact hasR_of (by assumption) (by decide))); rintro _ rfl; try rw [hR1.f.g])
    refine ⟨_, rfl, ?_⟩
    (refine ⟨?_, ?_⟩; (focus (first | exact hasI_of (by assumption) (by decide) | exact hasR_of (by assumption) (by decide))); rintro _ rfl; try rw [hR1.f.f 35 (by decide)])
    refine ⟨_, rfl, ?_⟩
    (refine ⟨e, ⟨_, hR1.kf 35 (by decide) rfl, rfl, by omega, by decide⟩, ?_⟩; rintro _ rfl; try rw [hR1.c.sl e he])
    refine ⟨_, rfl, ?_⟩
    (refine ⟨G.sl e, ⟨_, hR1.kf 32 (by decide) rfl, rfl, by omega, by decide⟩, ?_⟩; rintro _ rfl; try rw [hR1.c.nm _ hs])
    (refine ⟨?_, ?_⟩; (focus (first | exact hasI_of (by assumption) (by decide) | exact hasR_of (by assumption) (by decide))); rintro _ rfl; try rw [hR1.f.g])
    refine ⟨_, rfl, ?_⟩
    (refine ⟨?_, ?_⟩; (focus (first | exact hasI_of (by assumption) (by decide) | exact hasR_of (by assumption) (by decide))); rintro _ rfl; try rw [hR1.f.f 36 (by decide)])
    refine ⟨_, rfl, ?_⟩
    (refine ⟨e, ⟨_, hR1.kf 36 (by decide) rfl, rfl, by omega, by decide⟩, ?_⟩; rintro _ rfl; try rw [hR1.c.nu e he])
    exact kr e ht
  · rintro _ rfl
    exact kx h
theorem t_Mspot (hw : WF G) (hR : RM G M g) (hho : 8192 ≤ M.ho) {x y : Int32} (hmc : 1 ≤ mc) (hms : 6 ≤ ms) {post : Int32 → Sg → Prop} (k0 : (∀ e, ¬ fE G x y e) → post 0 (wI (wI g 56 M.m 0) 56 M.m 1)) (k1 : ∀ e, fE G x y e → G.ins e = false → post 0 (wI (wI g 56 M.m 0) 56 M.m 2)) (kr : ∀ e u v, fE G x y e → G.ins e = true → od G = 0 :: (u ++ (e + 1) :: v) → post (nI u.length) (wI g 56 M.m 0)) : w_M_spot z mi mc ms post g M.m x y := by
  have hm := hR.k.m
  have hne := hw.ne_le
  unfold w_M_spot
  refine ⟨hasI_of hm (by decide), ?_⟩
  rintro _ rfl
  have hR1 := hR.w56 M.m 0
  have hm1 := hR1.k.m
  have hg1 := hR1.k.gr
  refine ⟨⟨_, _, hm1, by decide⟩, 1, 6, by omega, by omega, ?_⟩
  unfold w_M_spot0
  (refine ⟨?_, ?_⟩; (focus (first | exact hasI_of (by assumption) (by decide) | exact hasR_of (by assumption) (by decide))); rintro _ rfl; try rw [hR1.f.g])
  refine ⟨_, rfl, ?_⟩
  refine ⟨⟨_, _, by assumption, by decide⟩, 0, 0, by omega, by omega, ?_⟩
  refine t_mfind hw hR1 (fun e hE he => ⟨fun _ => ?_, fun h => absurd (nI_pos' (by omega)) h⟩) (fun h => ⟨fun h => absurd h (by decide), fun _ => ⟨by omega, by omega, Or.inl ⟨rfl, hasI_of hm1 (by decide), ?_⟩⟩⟩)
  · (refine ⟨?_, ?_⟩; (focus (first | exact hasI_of (by assumption) (by decide) | exact hasR_of (by assumption) (by decide))); rintro _ rfl; try rw [hR1.f.g])
    refine ⟨_, rfl, ?_⟩
    (refine ⟨?_, ?_⟩; (focus (first | exact hasI_of (by assumption) (by decide) | exact hasR_of (by assumption) (by decide))); rintro _ rfl; try rw [hR1.f.f 38 (by decide)])
    refine ⟨_, rfl, ?_⟩
    (refine ⟨e, ⟨_, hR1.kf 38 (by decide) rfl, rfl, by omega, by decide⟩, ?_⟩; rintro _ rfl; try rw [hR1.c.ins e he (by omega)])
    cases hi : G.ins e with
    | false =>
      refine ⟨fun h => absurd rfl h, fun _ => ⟨by omega, by omega, Or.inr ⟨rfl, hasI_of hm1 (by decide), ?_⟩⟩⟩
      rintro _ rfl
      exact k1 e hE hi
    | true =>
      refine ⟨fun _ => ?_, fun h => absurd h (by decide)⟩
      (refine ⟨?_, ?_⟩; (focus (first | exact hasI_of (by assumption) (by decide) | exact hasR_of (by assumption) (by decide))); rintro _ rfl; try rw [hR1.f.g])
      refine ⟨_, rfl, ?_⟩
      refine ⟨⟨_, _, by assumption, by decide⟩, 0, 0, by omega, by omega, ?_⟩
      exact t_inRow hw hR1 he hi (fun u v ho => kr e u v hE hi ho)
  · rintro _ rfl
    exact k0 h
theorem t_stood (hw : WF G) (hR : RM G M g) {e n : Nat} (he : e < G.ne) (hi : G.ins e = true) (hn : n ≤ G.ne) {post : Int32 → Sg → Prop} (k1 : st G n e → post 1 g) (k0 : ¬ st G n e → post 0 g) : w_M_stood z mi mc ms post g M.m (nI e) (nI n) := by
  have hm := hR.k.m
  have hgr := hR.k.gr
  have hne := hw.ne_le
  have h48 := hR.kf 48 (by decide) rfl
  have loop : ∀ (l : List Nat), (∀ d ∈ l, d < G.ne) → ∀ v, chI (aI g (M.f 48)) v l → ((∀ d ∈ l, ¬ d < n) → post 1 g) → ((∃ d ∈ l, d < n) → post 0 g) → ∀ kc ks, w_M_stood_17 z mi mc ms post (l.length + 1) kc ks g M.m (nI n) v := by
    intro l
    induction l with
    | nil =>
      intro _ v hv q1 q0 kc ks
      have : v = -1 := hv
      subst this
      unfold w_M_stood_17
      exact ⟨fun _ => q1 (fun d hd => nomatch hd), fun h => absurd (by decide) h⟩
    | cons d l ih =>
      intro hl v hv q1 q0 kc ks
      obtain ⟨rfl, hv2⟩ := hv
      have hd := hl d List.mem_cons_self
      show w_M_stood_17 z mi mc ms post ((l.length + 1) + 1) kc ks g M.m (nI n) (nI d)
      unfold w_M_stood_17
      refine ⟨fun h => absurd h (pI0 (by omega)), fun _ => ?_⟩
      rw [lI (by omega) (by omega)]
      refine ⟨fun h => ?_, fun h => q0 ⟨d, List.mem_cons_self, by omega⟩⟩
      (refine ⟨?_, ?_⟩; (focus (first | exact hasI_of (by assumption) (by decide) | exact hasR_of (by assumption) (by decide))); rintro _ rfl; try rw [hR.f.g])
      refine ⟨_, rfl, ?_⟩
      (refine ⟨?_, ?_⟩; (focus (first | exact hasI_of (by assumption) (by decide) | exact hasR_of (by assumption) (by decide))); rintro _ rfl; try rw [hR.f.f 48 (by decide)])
      refine ⟨_, rfl, ?_⟩
      (refine ⟨d, ⟨_, h48, rfl, by omega, by decide⟩, ?_⟩; rintro _ rfl)
      exact ih (fun x hx => hl x (List.mem_cons_of_mem _ hx)) _ hv2 (fun h' => q1 (fun x hx => by
        rcases List.mem_cons.mp hx with rfl | hx
        · omega
        · exact h' x hx)) (fun ⟨x, hx, hx'⟩ => q0 ⟨x, List.mem_cons_of_mem _ hx, hx'⟩) kc ks
  unfold w_M_stood
  rw [tI (by omega) (by omega)]
  refine ⟨fun h => ?_, fun h => k0 (fun h' => h h'.1)⟩
  (refine ⟨?_, ?_⟩; (focus (first | exact hasI_of (by assumption) (by decide) | exact hasR_of (by assumption) (by decide))); rintro _ rfl; try rw [hR.f.g])
  refine ⟨_, rfl, ?_⟩
  (refine ⟨?_, ?_⟩; (focus (first | exact hasI_of (by assumption) (by decide) | exact hasR_of (by assumption) (by decide))); rintro _ rfl; try rw [hR.f.f 49 (by decide)])
  refine ⟨_, rfl, ?_⟩
  (refine ⟨e, ⟨_, hR.kf 49 (by decide) rfl, rfl, by omega, by decide⟩, ?_⟩; rintro _ rfl)
  exact ⟨_, loop (G.de e) (fun d hd => (hw.de_lt e d hd).2.1) _ (hR.c.de e he hi) (fun h' => k1 ⟨h, h'⟩) (fun ⟨d, hd, hd'⟩ => k0 (fun h' => h'.2 d hd hd')) 0 0⟩
theorem ne_in {y : Int32} (hw : WF G) : (¬ y < 0 ∧ ¬ nI G.ne < y) ↔ ∃ n, n ≤ G.ne ∧ y = nI n := by
  have hne := hw.ne_le
  constructor
  · rintro ⟨h1, h2⟩
    obtain ⟨j, hj, rfl⟩ := nI_of h1
    rw [nI_ltI (by omega) hj] at h2
    exact ⟨j, by omega, rfl⟩
  · rintro ⟨n, hn, rfl⟩
    exact ⟨nI_pos (by omega), fun h => by rw [nI_ltI (by omega) (by omega)] at h; omega⟩
theorem t_Mwas (hw : WF G) (hR : RM G M g) {y : Int32} (hmc : 1 ≤ mc) (hms : 6 ≤ ms) {post : Int32 → Sg → Prop} (kr : ∀ n, n ≤ G.ne → y = nI n → post (nI (txL G n)) (wI g 56 M.m 0)) (kx : (∀ n, n ≤ G.ne → y ≠ nI n) → post 0 (wI (wI g 56 M.m 0) 56 M.m 1)) : w_M_was z mi mc ms post g M.m y := by
  have hm := hR.k.m
  have hne := hw.ne_le
  unfold w_M_was
  refine ⟨hasI_of hm (by decide), ?_⟩
  rintro _ rfl
  have hR1 := hR.w56 M.m 0
  have hm1 := hR1.k.m
  have hg1 := hR1.k.gr
  refine ⟨⟨_, _, hm1, by decide⟩, 1, 6, by omega, by omega, ?_⟩
  unfold w_M_was0
  (refine ⟨?_, ?_⟩; (focus (first | exact hasI_of (by assumption) (by decide) | exact hasR_of (by assumption) (by decide))); rintro _ rfl; try rw [hR1.f.g])
  refine ⟨_, rfl, ?_⟩
  (refine ⟨?_, ?_⟩; (focus (first | exact hasI_of (by assumption) (by decide) | exact hasR_of (by assumption) (by decide))); rintro _ rfl; try rw [hR1.c.ne])
  refine ⟨0, 0, by omega, by omega, ?_⟩
  refine in_lem (lo := 0) (fun h1 h2 => ⟨fun _ => ?_, fun h => absurd h (by decide)⟩) (fun h => ⟨fun h => absurd rfl h, fun _ => ⟨by omega, by omega, rfl, hasI_of hm1 (by decide), ?_⟩⟩)
  · obtain ⟨n, hn, rfl⟩ := (ne_in hw).mp ⟨h1, h2⟩
    obtain ⟨t, ht, htl, hno, hod, hpos⟩ := hR1.row hw
    have htx : tx G n = t.filter (tb G n) := by
      unfold tx
      rw [ht, List.filter_cons_of_neg (by rw [tb_0]; decide)]
    have loop : ∀ (w u : List Nat), t = u ++ w → ∀ mc ms px kc ks, kc ≤ mc → ks ≤ ms → w_M_was0_27 z mi mc ms (fun x15 g14 => post x15 g14) px (w.length + 1) kc ks (wI g 56 M.m 0) M.m (nI n) (nI (u.filter (tb G n)).length) (nI u.length) := by
      intro w
      induction w with
      | nil =>
        intro u htu mc ms px kc ks hk hk'
        rw [List.append_nil] at htu
        unfold w_M_was0_27
        (refine ⟨?_, ?_⟩; (focus (first | exact hasI_of (by assumption) (by decide) | exact hasR_of (by assumption) (by decide))); rintro _ rfl; try rw [hR1.f.g])
        refine ⟨_, rfl, ?_⟩
        (refine ⟨?_, ?_⟩; (focus (first | exact hasI_of (by assumption) (by decide) | exact hasR_of (by assumption) (by decide))); rintro _ rfl; try rw [hno])
        refine ⟨fun _ => ?_, fun h => absurd (by rw [htu]; exact Int32.le_refl _) h⟩
        rw [← htu, ← htx]
        exact kr n hn rfl
      | cons x w ih =>
        intro u htu mc ms px kc ks hk hk'
        obtain ⟨e, rfl, he, hie⟩ := hpos x (by rw [htu]; simp)
        have hul : u.length < t.length := by
          rw [htu, List.length_append, List.length_cons]
          omega
        have hget : aI (wI g 56 M.m 0) (M.f 50) u.length = nI e := hod u.length e (by rw [htu]; exact get_mid)
        have nxt : t = (u ++ [e + 1]) ++ w := by rw [htu]; simp
        have hI := ih (u ++ [e + 1]) nxt mc ms px kc ks hk hk'
        rw [List.filter_append, List.length_append, List.length_append] at hI
        show w_M_was0_27 z mi mc ms _ px ((w.length + 1) + 1) kc ks _ M.m (nI n) _ _
        unfold w_M_was0_27
        (refine ⟨?_, ?_⟩; (focus (first | exact hasI_of (by assumption) (by decide) | exact hasR_of (by assumption) (by decide))); rintro _ rfl; try rw [hR1.f.g])
        refine ⟨_, rfl, ?_⟩
        (refine ⟨?_, ?_⟩; (focus (first | exact hasI_of (by assumption) (by decide) | exact hasR_of (by assumption) (by decide))); rintro _ rfl; try rw [hno])
        refine ⟨fun h => absurd ((lI (by omega) (by omega)).mp h) (by omega), fun _ => ?_⟩
        (refine ⟨?_, ?_⟩; (focus (first | exact hasI_of (by assumption) (by decide) | exact hasR_of (by assumption) (by decide))); rintro _ rfl; try rw [hR1.f.g])
        refine ⟨_, rfl, ?_⟩
        (refine ⟨?_, ?_⟩; (focus (first | exact hasI_of (by assumption) (by decide) | exact hasR_of (by assumption) (by decide))); rintro _ rfl; try rw [hR1.f.f 50 (by decide)])
        refine ⟨_, rfl, ?_⟩
        (refine ⟨u.length, ⟨_, hR1.kf 50 (by decide) rfl, rfl, by omega, by decide⟩, ?_⟩; rintro _ rfl; try rw [hget])
        refine ⟨⟨_, _, by assumption, by decide⟩, 0, 0, by omega, by omega, ?_⟩
        refine t_stood hw hR1 he hie hn (fun hs => ⟨fun h => absurd h (by decide), fun _ => ?_⟩) (fun hs => ⟨fun _ => ?_, fun h => absurd rfl h⟩)
        · rw [List.filter_cons_of_pos (tb_s.mpr hs)] at hI
          rw [nI_1, nI_1]
          exact hI
        · rw [List.filter_cons_of_neg (fun h => hs (tb_s.mp h))] at hI
          rw [nI_1]
          exact hI
    exact ⟨_, loop t [] rfl _ _ _ 0 0 (by omega) (by omega)⟩
  · rintro _ rfl
    refine kx (fun n hn e => ?_)
    have := (ne_in hw).mpr ⟨n, hn, e⟩
    rcases h with h | h
    · exact this.1 h
    · exact this.2 h
end MP
