section CW
variable {z mi mc ms : Nat} {G G2 : AG} {A : CA} {g g1 g2 : Sg} {V W : Nat → Nat}
theorem t_Einit {a s b : Nat} (hK : RCk G A (hT g)) (hF : RCf G A g) (hl : RCl z G A (hT g) (fR g 2) (fI g 3) (aR g)) (hs : s < G.na) (ha : isK g a [2, 3]) {post : Sg → Prop} (k : post (wR (wI (wR g 7 a (some (A.ga s))) 8 a (nI (G.ct s))) 9 a (some b))) : w_E_init z mi mc ms post g a (some (A.ga s)) (some b) := by
  have h1 := hK.ga s hs
  have h2 := hK.hl s hs
  unfold w_E_init
  refine ⟨hR2 ha (by decide), ?_⟩
  rintro _ rfl
  refine ⟨_, rfl, ?_⟩
  refine ⟨hasR_of (k := 1) h1 (by decide), ?_⟩
  rintro _ rfl
  rw [fR_wR_ne _ _ _ (by decide), hF.hl s hs]
  refine ⟨_, rfl, ?_⟩
  refine ⟨⟨_, _, h2, by decide⟩, 0, 0, by omega, by omega, ?_⟩
  refine t_size (n := G.ct s) h2 (hl.hn s hs) ?_
  refine ⟨hI2 (g := wR g 7 a (some (A.ga s))) ha (by decide), ?_⟩
  rintro _ rfl
  refine ⟨hR2 (g := wI (wR g 7 a (some (A.ga s))) 8 a (nI (G.ct s))) ha (by decide), ?_⟩
  rintro _ rfl
  exact k
theorem t_Ninit {a s b : Nat} {c : Int32} (hK : RCk G A (hT g)) (hF : RCf G A g) (hl : RCl z G A (hT g) (fR g 2) (fI g 3) (aR g)) (hs : s < G.na) (ha : hT g a = some (3, 13)) {post : Sg → Prop} (k : post (wI (wI (wR (wI (wR g 7 a (some (A.ga s))) 8 a (nI (G.ct s))) 9 a (some b)) 13 a c) 20 a 1000000)) : w_N_init z mi mc ms post g a (some (A.ga s)) (some b) c := by
  unfold w_N_init
  refine ⟨0, 0, by omega, by omega, ?_⟩
  refine t_Einit hK hF hl hs ⟨_, _, ha, by decide⟩ ?_
  refine ⟨hasI_of (k := 3) ha (by decide), ?_⟩
  rintro _ rfl
  refine ⟨hasI_of (k := 3) ha (by decide), ?_⟩
  rintro _ rfl
  exact k
def wcost (q : Nat) : Nat → Nat → Nat → Nat → Nat → Nat
  | 0, _, _, _, _ => 0
  | m + 1, hc, ct, ac, ne => q + co hc ct + co ac ne + wcost q m (cp2 hc ct) (ct + 1) (cp2 ac ne) (ne + 1)
theorem co_pot {cap n : Nat} (h : cap = 0 ∨ 10 ≤ cap) : co cap n + 4 * cap ≤ 4 * cp2 cap n := by
  unfold co cp2 newc
  split
  · split
    · omega
    · omega
  · omega
theorem rowD_cap {d cap n : Nat} {f : Nat → Nat} {T : Nat → Option (Nat × Nat)} {r : Nat → Nat → Option Nat} (h : rowD z T r d cap n f) : cap = 0 ∨ 10 ≤ cap := by
  obtain ⟨-, -, -, h⟩ := h
  rcases h with h | h
  · exact Or.inl h.1
  · exact Or.inr h.1
def edP (q m s b : Nat) (G : AG) (A A2 : CA) (g g2 : Sg) : Prop := (fC A.vw g g2) ∧ (fI g2 27 A.c = fI g 27 A.c) ∧ (A2.c = A.c) ∧ (A2.vw = A.vw) ∧ (A2.li = A.li) ∧ (∀ t, t ≠ s → A2.hc t = A.hc t) ∧ (wcost q m (A.hc s) (G.ct s) A.ac G.ne + 4 * A.hc s + 4 * A.ac ≤ q * m + 4 * A2.hc s + 4 * A2.ac) ∧ (∀ e, (e < G.ne → A2.bf e = A.bf e) ∧ (G.ne ≤ e → e < G.ne + m → A2.bf e = b))
theorem edP.fc {q m s b : Nat} {G : AG} {A A2 : CA} {g g2 : Sg} (h : edP q m s b G A A2 g g2) : fC A.vw g g2 := h.1
theorem edP.l {q m s b : Nat} {G : AG} {A A2 : CA} {g g2 : Sg} (h : edP q m s b G A A2 g g2) : fI g2 27 A.c = fI g 27 A.c := h.2.1
theorem edP.c {q m s b : Nat} {G : AG} {A A2 : CA} {g g2 : Sg} (h : edP q m s b G A A2 g g2) : A2.c = A.c := h.2.2.1
theorem edP.vw {q m s b : Nat} {G : AG} {A A2 : CA} {g g2 : Sg} (h : edP q m s b G A A2 g g2) : A2.vw = A.vw := h.2.2.2.1
theorem edP.li {q m s b : Nat} {G : AG} {A A2 : CA} {g g2 : Sg} (h : edP q m s b G A A2 g g2) : A2.li = A.li := h.2.2.2.2.1
theorem edP.hc {q m s b : Nat} {G : AG} {A A2 : CA} {g g2 : Sg} (h : edP q m s b G A A2 g g2) : ∀ t, t ≠ s → A2.hc t = A.hc t := h.2.2.2.2.2.1
theorem edP.po {q m s b : Nat} {G : AG} {A A2 : CA} {g g2 : Sg} (h : edP q m s b G A A2 g g2) : wcost q m (A.hc s) (G.ct s) A.ac G.ne + 4 * A.hc s + 4 * A.ac ≤ q * m + 4 * A2.hc s + 4 * A2.ac := h.2.2.2.2.2.2.1
theorem edP.bf {q m s b : Nat} {G : AG} {A A2 : CA} {g g2 : Sg} (h : edP q m s b G A A2 g g2) : ∀ e, (e < G.ne → A2.bf e = A.bf e) ∧ (G.ne ≤ e → e < G.ne + m → A2.bf e = b) := h.2.2.2.2.2.2.2
theorem edP.mk {q m s b : Nat} {G : AG} {A A2 : CA} {g g2 : Sg} (h0 : fC A.vw g g2) (h1 : fI g2 27 A.c = fI g 27 A.c) (h2 : A2.c = A.c) (h3 : A2.vw = A.vw) (h4 : A2.li = A.li) (h5 : ∀ t, t ≠ s → A2.hc t = A.hc t) (h6 : wcost q m (A.hc s) (G.ct s) A.ac G.ne + 4 * A.hc s + 4 * A.ac ≤ q * m + 4 * A2.hc s + 4 * A2.ac) (h7 : ∀ e, (e < G.ne → A2.bf e = A.bf e) ∧ (G.ne ≤ e → e < G.ne + m → A2.bf e = b)) : edP q m s b G A A2 g g2 := ⟨h0, h1, h2, h3, h4, h5, h6, h7⟩
def WI (z : Nat) (G : AG) (A : CA) (g : Sg) (s : Nat) (V W : Nat → Nat) (b : Nat) : Prop := (WF G) ∧ (RC z G A g) ∧ (RCv A V g) ∧ (hT g b = some (100, 16)) ∧ (∀ t, t < 16 → aI g b t = nI (V t)) ∧ (b ≠ A.vw) ∧ (∀ t, t < 16 → V t ≤ 8192) ∧ (s < G.na) ∧ (V s ≤ G.ct s) ∧ (∀ t, t ≠ s → W t = V t)
theorem WI.w {z : Nat} {G : AG} {A : CA} {g : Sg} {s : Nat} {V W : Nat → Nat} {b : Nat} (h : WI z G A g s V W b) : WF G := h.1
theorem WI.r {z : Nat} {G : AG} {A : CA} {g : Sg} {s : Nat} {V W : Nat → Nat} {b : Nat} (h : WI z G A g s V W b) : RC z G A g := h.2.1
theorem WI.v {z : Nat} {G : AG} {A : CA} {g : Sg} {s : Nat} {V W : Nat → Nat} {b : Nat} (h : WI z G A g s V W b) : RCv A V g := h.2.2.1
theorem WI.b {z : Nat} {G : AG} {A : CA} {g : Sg} {s : Nat} {V W : Nat → Nat} {b : Nat} (h : WI z G A g s V W b) : hT g b = some (100, 16) := h.2.2.2.1
theorem WI.bb {z : Nat} {G : AG} {A : CA} {g : Sg} {s : Nat} {V W : Nat → Nat} {b : Nat} (h : WI z G A g s V W b) : ∀ t, t < 16 → aI g b t = nI (V t) := h.2.2.2.2.1
theorem WI.bvw {z : Nat} {G : AG} {A : CA} {g : Sg} {s : Nat} {V W : Nat → Nat} {b : Nat} (h : WI z G A g s V W b) : b ≠ A.vw := h.2.2.2.2.2.1
theorem WI.hb {z : Nat} {G : AG} {A : CA} {g : Sg} {s : Nat} {V W : Nat → Nat} {b : Nat} (h : WI z G A g s V W b) : ∀ t, t < 16 → V t ≤ 8192 := h.2.2.2.2.2.2.1
theorem WI.s {z : Nat} {G : AG} {A : CA} {g : Sg} {s : Nat} {V W : Nat → Nat} {b : Nat} (h : WI z G A g s V W b) : s < G.na := h.2.2.2.2.2.2.2.1
theorem WI.vs {z : Nat} {G : AG} {A : CA} {g : Sg} {s : Nat} {V W : Nat → Nat} {b : Nat} (h : WI z G A g s V W b) : V s ≤ G.ct s := h.2.2.2.2.2.2.2.2.1
theorem WI.wv {z : Nat} {G : AG} {A : CA} {g : Sg} {s : Nat} {V W : Nat → Nat} {b : Nat} (h : WI z G A g s V W b) : ∀ t, t ≠ s → W t = V t := h.2.2.2.2.2.2.2.2.2
theorem WI.mk {z : Nat} {G : AG} {A : CA} {g : Sg} {s : Nat} {V W : Nat → Nat} {b : Nat} (h0 : WF G) (h1 : RC z G A g) (h2 : RCv A V g) (h3 : hT g b = some (100, 16)) (h4 : ∀ t, t < 16 → aI g b t = nI (V t)) (h5 : b ≠ A.vw) (h6 : ∀ t, t < 16 → V t ≤ 8192) (h7 : s < G.na) (h8 : V s ≤ G.ct s) (h9 : ∀ t, t ≠ s → W t = V t) : WI z G A g s V W b := ⟨h0, h1, h2, h3, h4, h5, h6, h7, h8, h9⟩
theorem kpP.fc {a v : Nat} {A2 : CA} (P : kpP z G G2 A A2 a g g2) : fC v g g2 := fC.mk P.t (fun f q hf hq => P.i f q hq (by omega) (by omega) (by omega) (by omega)) (fun f q hf hq => P.r f q hq (by omega)) (fun q hq _ => P.ai q hq) (fun q n hq => P.ar q _ _ hq (by decide)) P.al
theorem ob.fc {v : Nat} (h : ob g g2) : fC v g g2 := fC.mk (fun q _ => by rw [h.t]) (fun f q _ _ => by rw [h.i]) (fun f q hf _ => by rw [h.r f (by omega)]) (fun q _ _ => by rw [h.ai]) (fun q _ _ => by rw [h.ar]) (fun q _ => by rw [h.al])
theorem fC.wIs {v f a : Nat} {x : Int32} (hf : f < 29) : fC v g (wI g f a x) := fC.mk (fun _ _ => rfl) (fun f' q hf' _ => by rw [fI_wI_ne _ _ _ (by omega)]) (fun _ _ _ _ => rfl) (fun _ _ _ => rfl) (fun _ _ _ => rfl) (fun _ _ => rfl)
theorem fC.wRs {v f a : Nat} {x : Option Nat} (hf : f < 29) : fC v g (wR g f a x) := fC.mk (fun _ _ => rfl) (fun _ _ _ _ => rfl) (fun f' q hf' _ => by rw [fR_wR_ne _ _ _ (by omega)]) (fun _ _ _ => rfl) (fun _ _ _ => rfl) (fun _ _ => rfl)
set_option maxHeartbeats 1000000 in
theorem t_weave {post : Sg → Prop} {s b n : Nat} {V : Nat → Nat} {code : Int32} (hn : n ≤ 2000000) : ∀ (m j : Nat) (G : AG) (A : CA) (g : Sg) (W : Nat → Nat) (B i kc ks : Nat), j + m = n → WI z G A g s V W b → bN G W i B → (W = V ∨ G.k B true = []) → (0 < m → okE G s W) → G.ne + m ≤ 8192 → kc + 3 * m ≤ mc → ks + wcost 13 m (A.hc s) (G.ct s) A.ac G.ne ≤ ms →
    (∀ G2 A2 g2, runI m G s W i code j G2 → WF G2 → RC z G2 A2 g2 → edP 13 m s b G A A2 g g2 → post g2) → w_C_weaveIn_22 z mi mc ms post (m + 1) kc ks g A.c (some (A.ga s)) code (nI n) (some b) (some (nd A B)) (nI j) := by
  intro m
  induction m with
  | zero =>
    intro j G A g W B i kc ks hj hI hB _ _ _ _ _ k
    unfold w_C_weaveIn_22
    refine ⟨fun _ => k G A g rfl hI.w hI.r (edP.mk (fC.refl g) rfl rfl rfl rfl (fun _ _ => rfl) (by simp [wcost]) (fun e => ⟨fun _ => rfl, fun h1 h2 => absurd h2 (by omega)⟩)), fun h => absurd ((lI (by omega) (by omega)).mpr (by omega)) h⟩
  | succ m ih =>
    intro j G A g W B i kc ks hj hI hB hlc hok hne hkc hks k
    have hw := hI.w
    have hR := hI.r
    have hs := hI.s
    have ok := hok (by omega)
    have hBo := (bN_kn hB).1
    unfold w_C_weaveIn_22
    refine ⟨fun h => absurd ((lI (by omega) (by omega)).mp h) (by omega), fun _ => ⟨(fun h => nomatch h), ?_⟩⟩
    rintro _ ⟨⟩
    have ewc : wcost 13 (m + 1) (A.hc s) (G.ct s) A.ac G.ne = 13 + co (A.hc s) (G.ct s) + co A.ac G.ne + wcost 13 m (cp2 (A.hc s) (G.ct s)) (G.ct s + 1) (cp2 A.ac G.ne) (G.ne + 1) := rfl
    rw [ewc] at hks
    refine ⟨by omega, by omega, fun a ha => ?_⟩
    rintro _ rfl
    have hlv0 : lv g (nO g a 3 13) := (lv.refl g).nO ha
    have hR0 := hR.lv hw hlv0
    refine ⟨0, 0, by omega, by omega, ?_⟩
    refine t_Ninit hR0.k hR0.f hR0.l hs (hT9 _ _ _ _) ?_
    obtain ⟨g1, hg1⟩ : ∃ g1, g1 = wI (wI (wR (wI (wR (nO g a 3 13) 7 a (some (A.ga s))) 8 a (nI (G.ct s))) 9 a (some b)) 13 a (code + nI j)) 20 a 1000000 := ⟨_, rfl⟩
    rw [← hg1]
    have hlv : lv g g1 := by rw [hg1]; exact ((((hlv0.wR ha).wI ha).wR ha).wI ha).wI ha
    have hR1 := hR.lv hw hlv
    have hV1 := RCv.lv hR.k hI.v hlv
    have T1 : hT g1 a = some (3, 13) := by rw [hg1]; exact hT9 _ _ _ _
    have a7 : fR g1 7 a = some (A.ga s) := by
      rw [hg1]; simp only [u_hT_wI, u_hT_wR, u_hT_sI, u_hT_sR, u_hT_sL, u_hT_cI, u_hT_cR, u_fI_wR, u_fI_sI, u_fI_sR, u_fI_sL, u_fI_cI, u_fI_cR, u_fR_wI, u_fR_sI, u_fR_sR, u_fR_sL, u_fR_cI, u_fR_cR, u_aI_wI, u_aI_wR, u_aI_sR, u_aI_sL, u_aI_cR, u_aR_wI, u_aR_wR, u_aR_sI, u_aR_sL, u_aR_cI, u_aL_wI, u_aL_wR, u_aL_sI, u_aL_sR, u_aL_cI, u_aL_cR]
      rw [fR_wR_ne _ _ _ (by decide)]; simp only [u_hT_wI, u_hT_wR, u_hT_sI, u_hT_sR, u_hT_sL, u_hT_cI, u_hT_cR, u_fI_wR, u_fI_sI, u_fI_sR, u_fI_sL, u_fI_cI, u_fI_cR, u_fR_wI, u_fR_sI, u_fR_sR, u_fR_sL, u_fR_cI, u_fR_cR, u_aI_wI, u_aI_wR, u_aI_sR, u_aI_sL, u_aI_cR, u_aR_wI, u_aR_wR, u_aR_sI, u_aR_sL, u_aR_cI, u_aL_wI, u_aL_wR, u_aL_sI, u_aL_sR, u_aL_cI, u_aL_cR]; rw [fR_wR]; simp
    have a8 : fI g1 8 a = nI (G.ct s) := by
      rw [hg1, fI_wI_ne _ _ _ (by decide), fI_wI_ne _ _ _ (by decide)]; simp only [u_hT_wI, u_hT_wR, u_hT_sI, u_hT_sR, u_hT_sL, u_hT_cI, u_hT_cR, u_fI_wR, u_fI_sI, u_fI_sR, u_fI_sL, u_fI_cI, u_fI_cR, u_fR_wI, u_fR_sI, u_fR_sR, u_fR_sL, u_fR_cI, u_fR_cR, u_aI_wI, u_aI_wR, u_aI_sR, u_aI_sL, u_aI_cR, u_aR_wI, u_aR_wR, u_aR_sI, u_aR_sL, u_aR_cI, u_aL_wI, u_aL_wR, u_aL_sI, u_aL_sR, u_aL_cI, u_aL_cR]; rw [fI_wI]; simp
    have a9 : fR g1 9 a = some b := by
      rw [hg1]; simp only [u_hT_wI, u_hT_wR, u_hT_sI, u_hT_sR, u_hT_sL, u_hT_cI, u_hT_cR, u_fI_wR, u_fI_sI, u_fI_sR, u_fI_sL, u_fI_cI, u_fI_cR, u_fR_wI, u_fR_sI, u_fR_sR, u_fR_sL, u_fR_cI, u_fR_cR, u_aI_wI, u_aI_wR, u_aI_sR, u_aI_sL, u_aI_cR, u_aR_wI, u_aR_wR, u_aR_sI, u_aR_sL, u_aR_cI, u_aL_wI, u_aL_wR, u_aL_sI, u_aL_sR, u_aL_cI, u_aL_cR]
      rw [fR_wR]; simp
    have a13 : fI g1 13 a = code + nI j := by
      rw [hg1, fI_wI_ne _ _ _ (by decide), fI_wI]; simp
    have a20 : fI g1 20 a = 1000000 := by
      rw [hg1, fI_wI]; simp
    have aN : ∀ f, f ≠ 7 → f ≠ 9 → fR g1 f a = none := fun f h7 h9 => by
      rw [hg1]; simp only [u_hT_wI, u_hT_wR, u_hT_sI, u_hT_sR, u_hT_sL, u_hT_cI, u_hT_cR, u_fI_wR, u_fI_sI, u_fI_sR, u_fI_sL, u_fI_cI, u_fI_cR, u_fR_wI, u_fR_sI, u_fR_sR, u_fR_sL, u_fR_cI, u_fR_cR, u_aI_wI, u_aI_wR, u_aI_sR, u_aI_sL, u_aI_cR, u_aR_wI, u_aR_wR, u_aR_sI, u_aR_sL, u_aR_cI, u_aL_wI, u_aL_wR, u_aL_sI, u_aL_sR, u_aL_cI, u_aL_cR]
      rw [fR_wR_ne _ _ _ h9]; simp only [u_hT_wI, u_hT_wR, u_hT_sI, u_hT_sR, u_hT_sL, u_hT_cI, u_hT_cR, u_fI_wR, u_fI_sI, u_fI_sR, u_fI_sL, u_fI_cI, u_fI_cR, u_fR_wI, u_fR_sI, u_fR_sR, u_fR_sL, u_fR_cI, u_fR_cR, u_aI_wI, u_aI_wR, u_aI_sR, u_aI_sL, u_aI_cR, u_aR_wI, u_aR_wR, u_aR_sI, u_aR_sL, u_aR_cI, u_aL_wI, u_aL_wR, u_aL_sI, u_aL_sR, u_aL_cI, u_aL_cR]; rw [fR_wR_ne _ _ _ h7]
      exact fR_nO g
    have hc1 := hR1.k.c
    have hfr : ∀ e, e < G.ne → A.ea e ≠ a := fun e he => lv_ne ha _ (nn (hR.k.ea e he))
    have hart : a ≠ A.rt := (lv_ne ha _ (nn hR.k.rt)).symm
    refine ⟨⟨_, _, hc1, by decide⟩, 0, 0, by omega, by omega, ?_⟩
    have hFRE : FRE G A g1 a s (fun x => match x with | 0 => A.rt | e + 1 => ug A.ea G.ne a e) := FRE.mk T1 a7 a8 (aN 14 (by decide) (by decide)) (aN 15 (by decide) (by decide)) (fun x hx => lv_ne ha _ (nd_live hw hR.k hx)) (fun x hx => by
      rcases (hw.mem x).mp hx with rfl | ⟨e, rfl, he, -⟩
      · rfl
      · show ug A.ea G.ne a e = A.ea e
        exact ug_ne (by omega)) (by show ug A.ea G.ne a G.ne = a; exact ug_at _ _ _) hs (by omega)
    refine t_hang hw hR1 hV1 hI.hb hFRE hBo (fun p d l1 l2 hh hp hl q1 q2 g2 ho hS hO => ?_) (fun p d _ => split_ex hw s p d)
    have hhW : hg G W B p d := by
      rcases hlc with h | h
      · rw [h]; exact hh
      · rcases hh with ⟨-, h2, h3⟩ | ⟨⟨c, hc, -⟩, -⟩
        · exact Or.inl ⟨(by rw [h]; exact (fun c hc => nomatch hc)), h2, h3⟩
        · rw [h] at hc; cases hc
    have hst : stI G s W i (code + nI j) (addI G s W (code + nI j) (tr_put G.k p d (l1 ++ (G.ne + 1) :: l2))) := ⟨B, p, d, l1, l2, hB, hhW, hp, hl, q1, q2, rfl⟩
    obtain ⟨hw2, hE⟩ := stI_wf hw ok hst
    obtain ⟨tx1, tx2⟩ := tx_I hw ok hst
    have hpl := pl hw (c := code + nI j) ok hB hhW hl
    have T2 : hT g2 = hT g1 := ho.t
    refine ⟨hasI_of (by rw [T2]; exact hc1) (by decide), ?_⟩
    rintro _ rfl
    refine ⟨hasI_of (by rw [T2]; exact hc1) (by decide), ?_⟩
    rintro _ rfl
    have etx : fI g2 28 A.c + 1 = nI (txL G G.ne + 1) := by
      rw [ho.i, hR1.t.1, nI_1]
    rw [etx]
    obtain ⟨g3, hg3⟩ : ∃ g3, g3 = wI g2 28 A.c (nI (txL G G.ne + 1)) := ⟨_, rfl⟩
    rw [← hg3]
    have T3 : hT g3 = hT g1 := by rw [hg3]; exact T2
    have I3 : ∀ f, f ≠ 28 → fI g3 f = fI g1 f := fun f hf => by rw [hg3, fI_wI_ne _ _ _ hf, ho.i]
    have R3 : fR g3 = fR g2 := by rw [hg3]; rfl
    have AI3 : aI g3 = aI g1 := by rw [hg3]; exact ho.ai
    have AR3 : aR g3 = aR g1 := by rw [hg3]; exact ho.ar
    have R3o : ∀ f, f < 14 ∨ 18 < f → fR g3 f = fR g1 f := fun f hf => by rw [R3]; exact ho.r f hf
    have hK3 : RCk G A (hT g3) := by rw [T3]; exact hR1.k
    have hF3 : RCf G A g3 := RCf.lv hR1.k hR1.f (fun f q _ hf => by rw [I3 f (by omega)]) (fun f q _ hf => by rw [R3o f (by omega)]) (by rw [AR3])
    have hL3 : RCl z G A (hT g3) (fR g3 2) (fI g3 3) (aR g3) := by rw [T3, R3o 2 (by omega), I3 3 (by decide), AR3]; exact hR1.l
    have hE3 : RCe G A (fR g3 7) (fI g3 8) (fR g3 9) (fI g3 10) (fI g3 13) (aI g3) := by
      rw [R3o 7 (by omega), I3 8 (by decide), R3o 9 (by omega), I3 10 (by decide), I3 13 (by decide), AI3]; exact hR1.e
    refine ⟨⟨_, _, hK3.c, by decide⟩, 2, co (A.hc s) (G.ct s) + co A.ac G.ne, by omega, by omega, ?_⟩
    have hb1 : hT g1 b = some (100, 16) := by rw [hlv.t _ (nn hI.b)]; exact hI.b
    have insn : (addI G s W (code + nI j) (tr_put G.k p d (l1 ++ (G.ne + 1) :: l2))).ins G.ne = true := ug_at _ _ _
    refine t_keep (b := b) (B := V) hw hK3 hF3 hL3 hs (by omega) hE ⟨_, _, by rw [T3]; exact T1, by decide⟩ (by rw [R3o 7 (by omega)]; exact a7) (by omega) (by omega) (fun ad hd g4 P => ?_)
    have hRC : RC z (addI G s W (code + nI j) (tr_put G.k p d (l1 ++ (G.ne + 1) :: l2))) (ca2 A G s a b V ad hd) g4 := by
      refine RC_new hw hw2 hE hs (fun e he => ug_ne (by omega)) (fun e he _ => ug_ne (by omega)) hK3 hF3 hE3 (by rw [T3, if_pos insn]; exact T1) hfr hart (by rw [T3]; exact hb1) hI.bvw (fun t ht => ?_) (fun t _ hts => (hI.wv t hts).symm) hI.vs (by rw [R3o 7 (by omega)]; exact a7) (by rw [I3 8 (by decide)]; exact a8) (by rw [R3o 9 (by omega)]; exact a9) (fun _ => ?_) ?_ ?_ ?_ ?_ (fun e he => ?_) P
      · rw [AI3, hlv.ai _ (nn hI.b)]; exact hI.bb t ht
      · rw [I3 13 (by decide), a13]; exact (ug_at _ _ _).symm
      · rw [R3]
        have hN : nd (ca2 A G s a b V ad hd) = (fun x => match x with | 0 => A.rt | e + 1 => ug A.ea G.ne a e) := by
          funext x; cases x <;> rfl
        show rS (tr_put G.k p d (l1 ++ (G.ne + 1) :: l2)) (nd (ca2 A G s a b V ad hd)) _ _
        rw [hN]; exact hS
      · rw [R3]
        have hN : nd (ca2 A G s a b V ad hd) = (fun x => match x with | 0 => A.rt | e + 1 => ug A.ea G.ne a e) := by
          funext x; cases x <;> rfl
        show rO (tr_put G.k p d (l1 ++ (G.ne + 1) :: l2)) (nd (ca2 A G s a b V ad hd)) _ _
        rw [hN]; exact hO
      · rw [R3o 12 (by omega), R3o 19 (by omega), I3 20 (by decide)]
        have hde0 : G.de G.ne = [] := by
          cases hd : G.de G.ne with
          | nil => rfl
          | cons d l =>
            have := (hw.de_lt G.ne d (by rw [hd]; exact List.mem_cons_self)).1
            omega
        have sp : ∀ e, e < G.ne + 1 → e < G.ne ∨ e = G.ne := fun e he => by omega
        refine RCd.mk (fun e he hi => ?_) (fun e he hi => ?_)
        · rcases sp e he with h | rfl
          · have hi' : G.ins e = true := by rw [← hi]; exact (ug_ne (by omega)).symm
            show chn _ (fR g1 19 (ug A.ea G.ne a e)) ((G.de e).map (ug A.ea G.ne a))
            rw [ug_ne (by omega), List.map_congr_left (g := A.ea) (fun x hx => ug_ne (by have := (hw.de_lt e x hx).2.1; omega))]
            exact hR1.d.ch e h hi'
          · show chn _ (fR g1 19 (ug A.ea G.ne a G.ne)) ((G.de G.ne).map (ug A.ea G.ne a))
            rw [ug_at, hde0]
            exact aN 19 (by decide) (by decide)
        · rcases sp e he with h | rfl
          · have hi' : G.ins e = true := by rw [← hi]; exact (ug_ne (by omega)).symm
            show fI g1 20 (ug A.ea G.ne a e) = match (G.de e).getLast? with | none => 1000000 | some d => nI d
            rw [ug_ne (by omega)]
            exact hR1.d.fc e h hi'
          · show fI g1 20 (ug A.ea G.ne a G.ne) = match (G.de G.ne).getLast? with | none => 1000000 | some d => nI d
            rw [ug_at, hde0]
            exact a20
      · rw [hg3, fI_wI, tx1]; simp
      · rw [I3 11 (by decide), hR1.t.2 e he, tx2 (e + 1) (by omega)]
    have hfC : fC A.vw g g4 := ((((hlv.fc A.vw).trans ho.fc).trans (by rw [hg3]; exact fC.wIs (by decide))).trans P.fc)
    have hl27 : fI g4 27 A.c = fI g 27 A.c := by rw [P.i 27 _ (nn hK3.c) (by decide) (by decide) (by decide) (by decide), I3 27 (by decide), hlv.i _ (nn hR.k.c)]
    have hvw4 : aI g4 A.vw = aI g A.vw := by rw [P.ai _ (nn hK3.vw), AI3, hlv.ai _ (nn hR.k.vw)]
    have hbn4 : aI g4 b = aI g b := by rw [P.ai _ (by rw [T3]; exact nn hb1), AI3, hlv.ai _ (nn hI.b)]
    have hB4 : some (nd (ca2 A G s a b V ad hd) (G.ne + 1)) = some a := congrArg some (ug_at A.ea G.ne a)
    rw [nI_1, ← hB4]
    refine ih (j + 1) _ (ca2 A G s a b V ad hd) g4 (ug W s (G.ct s + 1)) (G.ne + 1) (i + 1) _ _ (by omega) ?_ hpl (Or.inr ?_) (fun hm => hE.okN hw ok (by omega)) (by show G.ne + 1 + m ≤ 8192; omega) (by omega) ?_ (fun G3 A3 g5 hrun hw3 hR3' hP => ?_)
    · refine WI.mk hw2 hRC (fun t ht => by show aI g4 A.vw t = _; rw [hvw4]; exact hI.v t ht) (by rw [P.t _ (by rw [T3]; exact nn hb1), T3]; exact hb1) (fun t ht => by rw [hbn4]; exact hI.bb t ht) hI.bvw hI.hb hs ?_ (fun t ht => by rw [ug_ne ht]; exact hI.wv t ht)
      show V s ≤ ug G.ct s (G.ct s + 1) s
      rw [ug_at]; have := hI.vs; omega
    · show tr_put G.k p d (l1 ++ (G.ne + 1) :: l2) (G.ne + 1) true = []
      rw [tr_put_n (by have := od_le hw hp; omega)]
      exact k_new hw true
    · have e1 : (ca2 A G s a b V ad hd).hc s = cp2 (A.hc s) (G.ct s) := ug_at _ _ _
      have e2 : (addI G s W (code + nI j) (tr_put G.k p d (l1 ++ (G.ne + 1) :: l2))).ct s = G.ct s + 1 := ug_at _ _ _
      rw [e1, e2]
      show _ + wcost 13 m (cp2 (A.hc s) (G.ct s)) (G.ct s + 1) (cp2 A.ac G.ne) (G.ne + 1) ≤ ms
      omega
    · have e1 : (ca2 A G s a b V ad hd).hc s = cp2 (A.hc s) (G.ct s) := ug_at _ _ _
      have e2 : (addI G s W (code + nI j) (tr_put G.k p d (l1 ++ (G.ne + 1) :: l2))).ct s = G.ct s + 1 := ug_at _ _ _
      have hpo := hP.po
      rw [e1, e2] at hpo
      have hpo' : wcost 13 m (cp2 (A.hc s) (G.ct s)) (G.ct s + 1) (cp2 A.ac G.ne) (G.ne + 1) + 4 * cp2 (A.hc s) (G.ct s) + 4 * cp2 A.ac G.ne ≤ 13 * m + 4 * A3.hc s + 4 * A3.ac := hpo
      refine k G3 A3 g5 ⟨_, hst, hrun⟩ hw3 hR3' (edP.mk (hfC.trans hP.fc) (hP.l.trans hl27) hP.c hP.vw hP.li (fun t ht => (hP.hc t ht).trans (ug_ne ht)) ?_ (fun e => ?_))
      rotate_left
      · have nx : ∀ e, e < G.ne + 1 → A3.bf e = ug A.bf G.ne b e := fun e he => (hP.bf e).1 he
        refine ⟨fun he => by rw [nx e (by omega), ug_ne (by omega)], fun h1 h2 => ?_⟩
        by_cases he : e = G.ne
        · rw [nx e (by omega), he, ug_at]
        · exact (hP.bf e).2 (by show G.ne + 1 ≤ e; omega) (by show e < G.ne + 1 + m; omega)
      rw [ewc]
      have p1 := co_pot (n := G.ct s) (rowD_cap (hR.l.hrow s hs))
      have p2 := co_pot (n := G.ne) (rowD_cap hR.l.row)
      omega
end CW
