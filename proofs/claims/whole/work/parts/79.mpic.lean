section MPIC
variable {z mi mc ms : Nat} {G G2 : AG} {M M0 M2 : MA} {g g0 g2 : Sg} {L : List Nat} {V W : Nat → Nat} {F R : Nat → Nat → Int32} {I : Nat → Int32}
def PM (M0 : MA) (g0 : Sg) (M : MA) (g : Sg) (F R : Nat → Nat → Int32) (I : Nat → Int32) : Prop := (RMk M (hT g)) ∧ (RMf M g) ∧ (∀ i, isF i → aI g (M.f i) = F i) ∧ (∀ s, s < 16 → aI g (M.rw s) = R s) ∧ (∀ f, fI g f M.gr = I f) ∧ (∀ f, fI g f M.m = fI g0 f M.m) ∧ (fM M0 g0 g) ∧ (M.m = M0.m) ∧ (M.gr = M0.gr) ∧ (M.f = M0.f) ∧ (∀ s, s < 16 → M.rw s = M0.rw s ∨ hT g0 (M.rw s) = none)
theorem PM.k {M0 : MA} {g0 : Sg} {M : MA} {g : Sg} {F R : Nat → Nat → Int32} {I : Nat → Int32} (h : PM M0 g0 M g F R I) : RMk M (hT g) := h.1
theorem PM.f {M0 : MA} {g0 : Sg} {M : MA} {g : Sg} {F R : Nat → Nat → Int32} {I : Nat → Int32} (h : PM M0 g0 M g F R I) : RMf M g := h.2.1
theorem PM.a {M0 : MA} {g0 : Sg} {M : MA} {g : Sg} {F R : Nat → Nat → Int32} {I : Nat → Int32} (h : PM M0 g0 M g F R I) : ∀ i, isF i → aI g (M.f i) = F i := h.2.2.1
theorem PM.w {M0 : MA} {g0 : Sg} {M : MA} {g : Sg} {F R : Nat → Nat → Int32} {I : Nat → Int32} (h : PM M0 g0 M g F R I) : ∀ s, s < 16 → aI g (M.rw s) = R s := h.2.2.2.1
theorem PM.i {M0 : MA} {g0 : Sg} {M : MA} {g : Sg} {F R : Nat → Nat → Int32} {I : Nat → Int32} (h : PM M0 g0 M g F R I) : ∀ f, fI g f M.gr = I f := h.2.2.2.2.1
theorem PM.j {M0 : MA} {g0 : Sg} {M : MA} {g : Sg} {F R : Nat → Nat → Int32} {I : Nat → Int32} (h : PM M0 g0 M g F R I) : ∀ f, fI g f M.m = fI g0 f M.m := h.2.2.2.2.2.1
theorem PM.m {M0 : MA} {g0 : Sg} {M : MA} {g : Sg} {F R : Nat → Nat → Int32} {I : Nat → Int32} (h : PM M0 g0 M g F R I) : fM M0 g0 g := h.2.2.2.2.2.2.1
theorem PM.em {M0 : MA} {g0 : Sg} {M : MA} {g : Sg} {F R : Nat → Nat → Int32} {I : Nat → Int32} (h : PM M0 g0 M g F R I) : M.m = M0.m := h.2.2.2.2.2.2.2.1
theorem PM.eg {M0 : MA} {g0 : Sg} {M : MA} {g : Sg} {F R : Nat → Nat → Int32} {I : Nat → Int32} (h : PM M0 g0 M g F R I) : M.gr = M0.gr := h.2.2.2.2.2.2.2.2.1
theorem PM.ef {M0 : MA} {g0 : Sg} {M : MA} {g : Sg} {F R : Nat → Nat → Int32} {I : Nat → Int32} (h : PM M0 g0 M g F R I) : M.f = M0.f := h.2.2.2.2.2.2.2.2.2.1
theorem PM.er {M0 : MA} {g0 : Sg} {M : MA} {g : Sg} {F R : Nat → Nat → Int32} {I : Nat → Int32} (h : PM M0 g0 M g F R I) : ∀ s, s < 16 → M.rw s = M0.rw s ∨ hT g0 (M.rw s) = none := h.2.2.2.2.2.2.2.2.2.2
theorem PM.mk {M0 : MA} {g0 : Sg} {M : MA} {g : Sg} {F R : Nat → Nat → Int32} {I : Nat → Int32} (h0 : RMk M (hT g)) (h1 : RMf M g) (h2 : ∀ i, isF i → aI g (M.f i) = F i) (h3 : ∀ s, s < 16 → aI g (M.rw s) = R s) (h4 : ∀ f, fI g f M.gr = I f) (h5 : ∀ f, fI g f M.m = fI g0 f M.m) (h6 : fM M0 g0 g) (h7 : M.m = M0.m) (h8 : M.gr = M0.gr) (h9 : M.f = M0.f) (h10 : ∀ s, s < 16 → M.rw s = M0.rw s ∨ hT g0 (M.rw s) = none) : PM M0 g0 M g F R I := ⟨h0, h1, h2, h3, h4, h5, h6, h7, h8, h9, h10⟩
def RMq (G : AG) (rl : Nat → Nat) (ho : Nat) (F R : Nat → Nat → Int32) (I : Nat → Int32) : Prop := (I 29 = nI G.ne) ∧ (I 30 = nI G.na) ∧ (I 31 = nI ((od G).length - 1)) ∧ (chI (F 42) (I 46) ((G.k 0 true).map (· - 1))) ∧ (∀ s, s < G.na → F 32 s = nI (G.nm s)) ∧ (∀ s, s < 16 → F 33 s = nI (if s < G.na then G.ct s else 0)) ∧ (∀ s n, s < G.na → n < G.ct s → R s n = nI (G.ev s n)) ∧ (∀ s, s < G.na → G.ct s ≤ rl s) ∧ (∀ e, e < G.ne → F 35 e = nI (G.sl e)) ∧ (∀ e, e < G.ne → F 36 e = nI (G.nu e)) ∧ (∀ e s, e < G.ne → s < 16 → F 37 (16 * e + s) = nI (G.pa e s)) ∧ (∀ e, e < G.ne → e ≠ ho → F 38 e = if G.ins e = true then 1 else 0) ∧ (∀ e, e < G.ne → G.ins e = true → F 40 e = G.cd e) ∧ (∀ e, e < G.ne → G.ins e = true → chI (F 42) (F 43 e) ((G.k (e + 1) false).map (· - 1))) ∧ (∀ e, e < G.ne → G.ins e = true → chI (F 42) (F 44 e) ((G.k (e + 1) true).map (· - 1))) ∧ (∀ e, e < G.ne → G.ins e = true → chI (F 48) (F 49 e) (G.de e)) ∧ (∀ i x, (od G)[i + 1]? = some x → F 50 i = nI (x - 1))
theorem RMq.ne {G : AG} {rl : Nat → Nat} {ho : Nat} {F R : Nat → Nat → Int32} {I : Nat → Int32} (h : RMq G rl ho F R I) : I 29 = nI G.ne := h.1
theorem RMq.na {G : AG} {rl : Nat → Nat} {ho : Nat} {F R : Nat → Nat → Int32} {I : Nat → Int32} (h : RMq G rl ho F R I) : I 30 = nI G.na := h.2.1
theorem RMq.no {G : AG} {rl : Nat → Nat} {ho : Nat} {F R : Nat → Nat → Int32} {I : Nat → Int32} (h : RMq G rl ho F R I) : I 31 = nI ((od G).length - 1) := h.2.2.1
theorem RMq.rc {G : AG} {rl : Nat → Nat} {ho : Nat} {F R : Nat → Nat → Int32} {I : Nat → Int32} (h : RMq G rl ho F R I) : chI (F 42) (I 46) ((G.k 0 true).map (· - 1)) := h.2.2.2.1
theorem RMq.nm {G : AG} {rl : Nat → Nat} {ho : Nat} {F R : Nat → Nat → Int32} {I : Nat → Int32} (h : RMq G rl ho F R I) : ∀ s, s < G.na → F 32 s = nI (G.nm s) := h.2.2.2.2.1
theorem RMq.ct {G : AG} {rl : Nat → Nat} {ho : Nat} {F R : Nat → Nat → Int32} {I : Nat → Int32} (h : RMq G rl ho F R I) : ∀ s, s < 16 → F 33 s = nI (if s < G.na then G.ct s else 0) := h.2.2.2.2.2.1
theorem RMq.ev {G : AG} {rl : Nat → Nat} {ho : Nat} {F R : Nat → Nat → Int32} {I : Nat → Int32} (h : RMq G rl ho F R I) : ∀ s n, s < G.na → n < G.ct s → R s n = nI (G.ev s n) := h.2.2.2.2.2.2.1
theorem RMq.rl {G : AG} {rl : Nat → Nat} {ho : Nat} {F R : Nat → Nat → Int32} {I : Nat → Int32} (h : RMq G rl ho F R I) : ∀ s, s < G.na → G.ct s ≤ rl s := h.2.2.2.2.2.2.2.1
theorem RMq.sl {G : AG} {rl : Nat → Nat} {ho : Nat} {F R : Nat → Nat → Int32} {I : Nat → Int32} (h : RMq G rl ho F R I) : ∀ e, e < G.ne → F 35 e = nI (G.sl e) := h.2.2.2.2.2.2.2.2.1
theorem RMq.nu {G : AG} {rl : Nat → Nat} {ho : Nat} {F R : Nat → Nat → Int32} {I : Nat → Int32} (h : RMq G rl ho F R I) : ∀ e, e < G.ne → F 36 e = nI (G.nu e) := h.2.2.2.2.2.2.2.2.2.1
theorem RMq.pa {G : AG} {rl : Nat → Nat} {ho : Nat} {F R : Nat → Nat → Int32} {I : Nat → Int32} (h : RMq G rl ho F R I) : ∀ e s, e < G.ne → s < 16 → F 37 (16 * e + s) = nI (G.pa e s) := h.2.2.2.2.2.2.2.2.2.2.1
theorem RMq.ins {G : AG} {rl : Nat → Nat} {ho : Nat} {F R : Nat → Nat → Int32} {I : Nat → Int32} (h : RMq G rl ho F R I) : ∀ e, e < G.ne → e ≠ ho → F 38 e = if G.ins e = true then 1 else 0 := h.2.2.2.2.2.2.2.2.2.2.2.1
theorem RMq.cd {G : AG} {rl : Nat → Nat} {ho : Nat} {F R : Nat → Nat → Int32} {I : Nat → Int32} (h : RMq G rl ho F R I) : ∀ e, e < G.ne → G.ins e = true → F 40 e = G.cd e := h.2.2.2.2.2.2.2.2.2.2.2.2.1
theorem RMq.lc {G : AG} {rl : Nat → Nat} {ho : Nat} {F R : Nat → Nat → Int32} {I : Nat → Int32} (h : RMq G rl ho F R I) : ∀ e, e < G.ne → G.ins e = true → chI (F 42) (F 43 e) ((G.k (e + 1) false).map (· - 1)) := h.2.2.2.2.2.2.2.2.2.2.2.2.2.1
theorem RMq.rch {G : AG} {rl : Nat → Nat} {ho : Nat} {F R : Nat → Nat → Int32} {I : Nat → Int32} (h : RMq G rl ho F R I) : ∀ e, e < G.ne → G.ins e = true → chI (F 42) (F 44 e) ((G.k (e + 1) true).map (· - 1)) := h.2.2.2.2.2.2.2.2.2.2.2.2.2.2.1
theorem RMq.de {G : AG} {rl : Nat → Nat} {ho : Nat} {F R : Nat → Nat → Int32} {I : Nat → Int32} (h : RMq G rl ho F R I) : ∀ e, e < G.ne → G.ins e = true → chI (F 48) (F 49 e) (G.de e) := h.2.2.2.2.2.2.2.2.2.2.2.2.2.2.2.1
theorem RMq.ord {G : AG} {rl : Nat → Nat} {ho : Nat} {F R : Nat → Nat → Int32} {I : Nat → Int32} (h : RMq G rl ho F R I) : ∀ i x, (od G)[i + 1]? = some x → F 50 i = nI (x - 1) := h.2.2.2.2.2.2.2.2.2.2.2.2.2.2.2.2
theorem RMq.mk {G : AG} {rl : Nat → Nat} {ho : Nat} {F R : Nat → Nat → Int32} {I : Nat → Int32} (h0 : I 29 = nI G.ne) (h1 : I 30 = nI G.na) (h2 : I 31 = nI ((od G).length - 1)) (h3 : chI (F 42) (I 46) ((G.k 0 true).map (· - 1))) (h4 : ∀ s, s < G.na → F 32 s = nI (G.nm s)) (h5 : ∀ s, s < 16 → F 33 s = nI (if s < G.na then G.ct s else 0)) (h6 : ∀ s n, s < G.na → n < G.ct s → R s n = nI (G.ev s n)) (h7 : ∀ s, s < G.na → G.ct s ≤ rl s) (h8 : ∀ e, e < G.ne → F 35 e = nI (G.sl e)) (h9 : ∀ e, e < G.ne → F 36 e = nI (G.nu e)) (h10 : ∀ e s, e < G.ne → s < 16 → F 37 (16 * e + s) = nI (G.pa e s)) (h11 : ∀ e, e < G.ne → e ≠ ho → F 38 e = if G.ins e = true then 1 else 0) (h12 : ∀ e, e < G.ne → G.ins e = true → F 40 e = G.cd e) (h13 : ∀ e, e < G.ne → G.ins e = true → chI (F 42) (F 43 e) ((G.k (e + 1) false).map (· - 1))) (h14 : ∀ e, e < G.ne → G.ins e = true → chI (F 42) (F 44 e) ((G.k (e + 1) true).map (· - 1))) (h15 : ∀ e, e < G.ne → G.ins e = true → chI (F 48) (F 49 e) (G.de e)) (h16 : ∀ i x, (od G)[i + 1]? = some x → F 50 i = nI (x - 1)) : RMq G rl ho F R I := ⟨h0, h1, h2, h3, h4, h5, h6, h7, h8, h9, h10, h11, h12, h13, h14, h15, h16⟩
theorem PM.start (hR : RM G M g) : PM M g M g (fun i => aI g (M.f i)) (fun s => aI g (M.rw s)) (fun f => fI g f M.gr) := PM.mk hR.k hR.f (fun _ _ => rfl) (fun _ _ => rfl) (fun _ => rfl) (fun _ => rfl) (fM.refl M g) rfl rfl rfl (fun _ _ => Or.inl rfl)
theorem RM.q (hR : RM G M g) : RMq G M.rl M.ho (fun i => aI g (M.f i)) (fun s => aI g (M.rw s)) (fun f => fI g f M.gr) := RMq.mk hR.c.ne hR.c.na hR.c.no hR.c.rc hR.c.nm hR.c.ct hR.c.ev hR.c.rl hR.c.sl hR.c.nu hR.c.pa hR.c.ins hR.c.cd hR.c.lc hR.c.rch hR.c.de hR.c.ord
theorem PM.rm (hw : WF G) (hP : PM M0 g0 M g F R I) (hq : RMq G M.rl M.ho F R I) : RM G M g := by
  have a := hP.a
  have hna := hw.na_le
  refine RM.mk hP.k hP.f (RMc.mk ?_ ?_ ?_ ?_ ?_ ?_ (fun s n hs hn => ?_) hq.rl ?_ ?_ ?_ ?_ ?_ ?_ ?_ ?_ ?_)
  · rw [hP.i]; exact hq.ne
  · rw [hP.i]; exact hq.na
  · rw [hP.i]; exact hq.no
  · rw [hP.i, a 42 (by decide)]; exact hq.rc
  · rw [a 32 (by decide)]; exact hq.nm
  · rw [a 33 (by decide)]; exact hq.ct
  · rw [hP.w s (by omega)]; exact hq.ev s n hs hn
  · rw [a 35 (by decide)]; exact hq.sl
  · rw [a 36 (by decide)]; exact hq.nu
  · rw [a 37 (by decide)]; exact hq.pa
  · rw [a 38 (by decide)]; exact hq.ins
  · rw [a 40 (by decide)]; exact hq.cd
  · rw [a 42 (by decide), a 43 (by decide)]; exact hq.lc
  · rw [a 42 (by decide), a 44 (by decide)]; exact hq.rch
  · rw [a 48 (by decide), a 49 (by decide)]; exact hq.de
  · rw [a 50 (by decide)]; exact hq.ord
theorem ug_cg {α : Type} (f : Nat → α) (i : Nat) (v : α) : ug f i v = fun j => if j = i then v else f j := rfl
theorem PM.sF (hP : PM M0 g0 M g F R I) (i : Nat) (hi : isF i) (j : Nat) (v : Int32) : PM M0 g0 M (sI g (M.f i) j v) (ug F i (ug (F i) j v)) R I := by
  rw [sI_cI, hP.a i hi]
  have hm := fM.cA (M := M0) (g := g) hi (fun q => if q = j then v else F i q)
  rw [← hP.ef] at hm
  refine PM.mk hP.k (RMf.mk hP.f.g hP.f.f hP.f.l hP.f.t hP.f.s hP.f.rw) (fun i' hi' => ?_) (fun s hs => ?_) hP.i hP.j (hP.m.trans hm) hP.em hP.eg hP.ef hP.er
  · by_cases h : i' = i
    · subst h; rw [aI_cI, ug_at]; rfl
    · rw [aI_cI_ne _ _ (fun e => h (hP.k.inj i' i hi' hi e)), ug_ne h]; exact hP.a i' hi'
  · rw [aI_cI_ne _ _ (hP.k.rwf s i hs hi)]; exact hP.w s hs
theorem PM.sW (hP : PM M0 g0 M g F R I) (s : Nat) (hs : s < 16) (j : Nat) (v : Int32) : PM M0 g0 M (sI g (M.rw s) j v) F (ug R s (ug (R s) j v)) I := by
  rw [sI_cI, hP.w s hs]
  have hm : fM M0 g0 (cI g (M.rw s) (fun q => if q = j then v else R s q)) := by
    refine fM.mk hP.m.t hP.m.i hP.m.r (fun a ha h1 h2 => ?_) hP.m.ar hP.m.al
    have hne : a ≠ M.rw s := fun e => by
      rcases hP.er s hs with h | h
      · exact h2 s hs (e.trans h)
      · exact ha (by rw [e]; exact h)
    rw [aI_cI_ne _ _ hne]
    exact hP.m.ai a ha h1 h2
  refine PM.mk hP.k (RMf.mk hP.f.g hP.f.f hP.f.l hP.f.t hP.f.s hP.f.rw) (fun i' hi' => ?_) (fun t ht => ?_) hP.i hP.j hm hP.em hP.eg hP.ef hP.er
  · rw [aI_cI_ne _ _ (fun e => hP.k.rwf s i' hs hi' e.symm)]; exact hP.a i' hi'
  · by_cases h : t = s
    · subst h; rw [aI_cI, ug_at]; rfl
    · rw [aI_cI_ne _ _ (fun e => h (hP.k.rwi t s ht hs e)), ug_ne h]; exact hP.w t ht
theorem PM.mg (hP : PM M0 g0 M g F R I) : M.m ≠ M.gr := fun e => by
  have h1 := hP.k.m
  have h2 := hP.k.gr
  rw [e, h2] at h1
  cases h1
theorem PM.wG (hP : PM M0 g0 M g F R I) (f : Nat) (hf : 29 ≤ f) (v : Int32) : PM M0 g0 M (wI g f M.gr v) F R (ug I f v) := by
  refine PM.mk hP.k (RMf.mk hP.f.g hP.f.f hP.f.l hP.f.t hP.f.s hP.f.rw) hP.a hP.w (fun f' => ?_) (fun f' => ?_) (hP.m.trans (fM.wIs hf)) hP.em hP.eg hP.ef hP.er
  · by_cases h : f' = f
    · subst h; rw [fI_wI, ug_at]; simp
    · rw [fI_wI_ne _ _ _ h, ug_ne h]; exact hP.i f'
  · by_cases h : f' = f
    · subst h; rw [fI_wI]; simp only [hP.mg, if_false]; exact hP.j f'
    · rw [fI_wI_ne _ _ _ h]; exact hP.j f'
theorem PM.dbl (hP : PM M0 g0 M g F R I) {s b n : Nat} (hs : s < 16) (hb : hT g b = none) (h : lv g g2) (hb2 : hT g2 b = some (100, n)) (hn : 8 ≤ n ∧ n ≤ 16384) : PM M0 g0 (MA.mk M.m M.gr M.f (ug M.rw s b) (ug M.rl s n) M.ho) (sR g2 (M.f 34) s (some b)) F (ug R s (aI g2 b)) I := by
  have lf : ∀ i, isF i → hT g (M.f i) ≠ none := fun i hi => nn (hP.k.f i hi)
  have lr : ∀ t, t < 16 → hT g (M.rw t) ≠ none := fun t ht => nn (hP.k.rw t ht)
  have nf : ∀ i, isF i → M.f i ≠ b := fun i hi => lv_ne hb _ (lf i hi)
  have nr : ∀ t, t < 16 → M.rw t ≠ b := fun t ht => lv_ne hb _ (lr t ht)
  have hm := nn hP.k.m
  have hg := nn hP.k.gr
  have hK : RMk (MA.mk M.m M.gr M.f (ug M.rw s b) (ug M.rl s n) M.ho) (hT g2) := by
    refine RMk.mk ((h.t _ hm).trans hP.k.m) ((h.t _ hg).trans hP.k.gr) (fun i hi => (h.t _ (lf i hi)).trans (hP.k.f i hi)) (fun t ht => ?_) (fun t ht => ?_) hP.k.inj (fun t i ht hi => ?_) (fun t t' ht ht' e => ?_)
    · show hT g2 (ug M.rw s b t) = some (100, ug M.rl s n t)
      by_cases e : t = s
      · subst e; rw [ug_at, ug_at]; exact hb2
      · rw [ug_ne e, ug_ne e, h.t _ (lr t ht)]; exact hP.k.rw t ht
    · show 8 ≤ ug M.rl s n t ∧ ug M.rl s n t ≤ 16384
      by_cases e : t = s
      · subst e; rw [ug_at]; exact hn
      · rw [ug_ne e]; exact hP.k.rl t ht
    · show ug M.rw s b t ≠ M.f i
      by_cases e : t = s
      · subst e; rw [ug_at]; exact fun e => nf i hi e.symm
      · rw [ug_ne e]; exact hP.k.rwf t i ht hi
    · have e' : ug M.rw s b t = ug M.rw s b t' := e
      by_cases e1 : t = s
      · by_cases e2 : t' = s
        · rw [e1, e2]
        · rw [e1, ug_at, ug_ne e2] at e'; exact absurd e'.symm (nr t' ht')
      · by_cases e2 : t' = s
        · rw [e2, ug_at, ug_ne e1] at e'; exact absurd e' (nr t ht)
        · rw [ug_ne e1, ug_ne e2] at e'; exact hP.k.rwi t t' ht ht' e'
  have h34 := hP.k.f 34 (by decide)
  have live : ∀ a, hT g0 a ≠ none → hT g a ≠ none := fun a ha => by rw [hP.m.t a ha]; exact ha
  refine PM.mk hK (RMf.mk ?_ (fun i hi => ?_) ?_ ?_ ?_ (fun t ht => ?_)) (fun i hi => ?_) (fun t ht => ?_) (fun f => ?_) (fun f => ?_) (fM.mk (fun a ha => ?_) (fun f a hf ha => ?_) (fun f a hf ha => ?_) (fun a ha h1 h2 => ?_) (fun a k n' ha hk => ?_) (fun a ha => ?_)) hP.em hP.eg hP.ef (fun t ht => ?_)
  · exact (h.r _ hm 51).trans hP.f.g
  · exact (h.r _ hg i).trans (hP.f.f i hi)
  · exact (h.r _ hm 52).trans hP.f.l
  · exact (h.r _ hm 53).trans hP.f.t
  · exact (h.r _ hm 55).trans hP.f.s
  · show aR (sR g2 (M.f 34) s (some b)) (M.f 34) t = some (ug M.rw s b t)
    rw [aR9]
    by_cases e : t = s
    · subst e; rw [ug_at]; simp
    · rw [ug_ne e]
      simp only [e, if_false]
      rw [h.ar _ (lf 34 (by decide))]; exact hP.f.rw t ht
  · exact (h.ai _ (lf i hi)).trans (hP.a i hi)
  · show aI g2 (ug M.rw s b t) = _
    by_cases e : t = s
    · subst e; rw [ug_at, ug_at]
    · rw [ug_ne e, ug_ne e, h.ai _ (lr t ht)]; exact hP.w t ht
  · exact (h.i _ hg f).trans (hP.i f)
  · exact (h.i _ hm f).trans (hP.j f)
  · exact (h.t a (live a ha)).trans (hP.m.t a ha)
  · exact (h.i a (live a ha) f).trans (hP.m.i f a hf ha)
  · exact (h.r a (live a ha) f).trans (hP.m.r f a hf ha)
  · exact (h.ai a (live a ha)).trans (hP.m.ai a ha h1 h2)
  · have hne : a ≠ M.f 34 := fun e => by
      have := (hP.m.t a (nn ha)).trans ha
      rw [e, h34] at this
      have hk' : k = 107 := by injection this with q; injection q with q1 q2; exact q1.symm
      exact hk hk'
    rw [aR9n _ _ _ hne, h.ar a (live a (nn ha))]
    exact hP.m.ar a k n' ha hk
  · exact (h.al a (live a ha)).trans (hP.m.al a ha)
  · show ug M.rw s b t = _ ∨ hT g0 (ug M.rw s b t) = none
    by_cases e : t = s
    · subst e; rw [ug_at]; right
      cases h0 : hT g0 b with
      | none => rfl
      | some y => exact absurd ((hP.m.t b (nn h0)).trans h0) (by rw [hb]; exact fun h => nomatch h)
    · rw [ug_ne e]; exact hP.er t ht
theorem PM.ho (hP : PM M0 g0 M g F R I) (n : Nat) : PM M0 g0 (MA.mk M.m M.gr M.f M.rw M.rl n) g F R I := PM.mk (RMk.mk hP.k.m hP.k.gr hP.k.f hP.k.rw hP.k.rl hP.k.inj hP.k.rwf hP.k.rwi) (RMf.mk hP.f.g hP.f.f hP.f.l hP.f.t hP.f.s hP.f.rw) hP.a hP.w hP.i hP.j hP.m hP.em hP.eg hP.ef hP.er
def addN (G : AG) (s : Nat) (W : Nat → Nat) : AG := AG.mk (G.ne + 1) G.na G.nm (ug G.ct s (G.ct s + 1)) (ug G.sl G.ne s) (ug G.nu G.ne (G.ct s)) (fun t n => if t = s ∧ n = G.ct s then G.ne else G.ev t n) (ug G.pa G.ne W) (ug G.ins G.ne false) G.cd G.k G.de
theorem evS_N (s : Nat) (W : Nat → Nat) : evS G (addN G s W) s W := evS.mk rfl rfl rfl rfl rfl rfl rfl rfl
theorem wf_addN (hw : WF G) {s : Nat} {W : Nat → Nat} (ok : okE G s W) : WF (addN G s W) := by
  have hne := ok.ne
  have h := evS_N (G := G) s W
  have inso : ∀ e, e < G.ne → (addN G s W).ins e = G.ins e := fun e he => ug_ne (by omega)
  have insn : (addN G s W).ins G.ne = false := ug_at _ _ _
  refine h.wf hw ok hw.tr hw.tr0 hw.nodup (fun y => ?_) (fun p b c hc => ?_) hw.uq (fun p b c hc => ?_) (fun p b => ?_) (fun e d hd => ?_) hw.de_srt
  · show y ∈ od G ↔ _
    rw [hw.mem y]
    refine or_congr Iff.rfl ⟨fun ⟨e, h1, h2, h3⟩ => ⟨e, h1, by show e < G.ne + 1; omega, by rw [inso e h2]; exact h3⟩, fun ⟨e, h1, h2, h3⟩ => ?_⟩
    have h2' : e < G.ne + 1 := h2
    have : e < G.ne ∨ e = G.ne := by omega
    rcases this with h4 | rfl
    · rw [inso e h4] at h3; exact ⟨e, h1, h4, h3⟩
    · rw [insn] at h3; cases h3
  · have := hw.kin p b c hc
    exact ⟨by show p ≤ G.ne + 1; omega, by show c ≤ G.ne + 1; omega⟩
  · have h1 := k_ev hw hc
    have h2 := hw.kin _ _ _ hc
    have h3 : c < G.ne := h1.1
    rw [h.kno (by omega)]
    show kn G (ug G.pa G.ne W c) p
    rw [ug_ne (by omega)]
    exact hw.up p b c hc
  · refine (hw.srt p b).imp_of_mem (fun {u v} hu hv hh => ?_)
    rw [h.lso (k_ev hw hu).1 (k_ev hw hv).1]
    exact hh
  · obtain ⟨q1, q2, q3, q4⟩ := hw.de_lt e d hd
    exact ⟨by show e < G.ne + 1; omega, by show d < G.ne + 1; omega, by rw [inso d q2]; exact q3, by rw [inso e q1]; exact q4⟩
end MPIC
