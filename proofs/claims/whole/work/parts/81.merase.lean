section MERA
variable {z mi mc ms : Nat} {G G2 : AG} {M M0 M2 : MA} {g g0 g2 : Sg} {L : List Nat} {V W : Nat → Nat} {F R F2 R2 : Nat → Nat → Int32} {I I2 : Nat → Int32} {rl rl2 : Nat → Nat} {ho : Nat}
theorem sb_N (hw : WF G) {s x : Nat} (hx : x ∈ od G) : sb (addN G s W) W x = sb G W x := sb_cg hx hw (fun _ _ _ _ => rfl) (fun e he => (evS_N s W).kno he W)
theorem flt_N (hw : WF G) {s : Nat} {l : List Nat} (hl : ∀ x ∈ l, x ∈ od G) : l.filter (sb (addN G s W) W) = l.filter (sb G W) := List.filter_congr (fun x hx => sb_N hw (hl x hx))
theorem seL_N (hw : WF G) {s : Nat} : (seL (addN G s W) W).length = (seL G W).length := by
  have h := flt_N (G := G) (W := W) (s := s) (l := od G) hw (fun _ h => h)
  unfold seL
  have e : od (addN G s W) = od G := rfl
  rw [e, h]
theorem ADD.vs {s : Nat} (hA : ADD z M0 g0 G s W V M M2 g2 F2 R2 I2) (hne : G.ne < 8192) (hWb : ∀ t, t < 16 → W t ≤ 8192) : VS g2 (M2.f 37) (16 * G.ne) W := by
  refine VS.mk ⟨_, hA.P.k.f 37 (by decide), by show 16 * G.ne + 16 ≤ 131072; omega, by decide⟩ (fun t ht => ?_) hWb
  rw [hA.P.a 37 (by decide), hA.q.pa G.ne t (Nat.lt_succ_self _) ht]
  show nI (ug G.pa G.ne W G.ne t) = _
  rw [ug_at]
theorem ADD.rm {s : Nat} (hw1 : WF (addN G s W)) (hA : ADD z M0 g0 G s W V M M2 g2 F2 R2 I2) : RM (addN G s W) M2 g2 := hA.P.rm hw1 (by rw [hA.eh]; exact hA.q)
def DON (M0 : MA) (g0 : Sg) (G G2 : AG) (s : Nat) (V : Nat → Nat) (M M2 : MA) (g2 : Sg) : Prop := (RM G2 M2 g2) ∧ (fM M0 g0 g2) ∧ (∀ f, fI g2 f M2.m = fI g0 f M2.m) ∧ (M2.m = M0.m) ∧ (M2.gr = M0.gr) ∧ (M2.f = M0.f) ∧ (∀ s, s < 16 → M2.rw s = M0.rw s ∨ hT g0 (M2.rw s) = none) ∧ (M2.ho = 8192) ∧ (∀ t, t < 16 → aI g2 (M2.f 55) t = nI (V t)) ∧ (∀ t, t ≠ s → M2.rl t = M.rl t) ∧ (M2.rl s = if G.ct s = M.rl s then 2 * M.rl s else M.rl s)
theorem DON.rm {M0 : MA} {g0 : Sg} {G G2 : AG} {s : Nat} {V : Nat → Nat} {M M2 : MA} {g2 : Sg} (h : DON M0 g0 G G2 s V M M2 g2) : RM G2 M2 g2 := h.1
theorem DON.m {M0 : MA} {g0 : Sg} {G G2 : AG} {s : Nat} {V : Nat → Nat} {M M2 : MA} {g2 : Sg} (h : DON M0 g0 G G2 s V M M2 g2) : fM M0 g0 g2 := h.2.1
theorem DON.j {M0 : MA} {g0 : Sg} {G G2 : AG} {s : Nat} {V : Nat → Nat} {M M2 : MA} {g2 : Sg} (h : DON M0 g0 G G2 s V M M2 g2) : ∀ f, fI g2 f M2.m = fI g0 f M2.m := h.2.2.1
theorem DON.em {M0 : MA} {g0 : Sg} {G G2 : AG} {s : Nat} {V : Nat → Nat} {M M2 : MA} {g2 : Sg} (h : DON M0 g0 G G2 s V M M2 g2) : M2.m = M0.m := h.2.2.2.1
theorem DON.eg {M0 : MA} {g0 : Sg} {G G2 : AG} {s : Nat} {V : Nat → Nat} {M M2 : MA} {g2 : Sg} (h : DON M0 g0 G G2 s V M M2 g2) : M2.gr = M0.gr := h.2.2.2.2.1
theorem DON.ef {M0 : MA} {g0 : Sg} {G G2 : AG} {s : Nat} {V : Nat → Nat} {M M2 : MA} {g2 : Sg} (h : DON M0 g0 G G2 s V M M2 g2) : M2.f = M0.f := h.2.2.2.2.2.1
theorem DON.er {M0 : MA} {g0 : Sg} {G G2 : AG} {s : Nat} {V : Nat → Nat} {M M2 : MA} {g2 : Sg} (h : DON M0 g0 G G2 s V M M2 g2) : ∀ s, s < 16 → M2.rw s = M0.rw s ∨ hT g0 (M2.rw s) = none := h.2.2.2.2.2.2.1
theorem DON.eh {M0 : MA} {g0 : Sg} {G G2 : AG} {s : Nat} {V : Nat → Nat} {M M2 : MA} {g2 : Sg} (h : DON M0 g0 G G2 s V M M2 g2) : M2.ho = 8192 := h.2.2.2.2.2.2.2.1
theorem DON.v {M0 : MA} {g0 : Sg} {G G2 : AG} {s : Nat} {V : Nat → Nat} {M M2 : MA} {g2 : Sg} (h : DON M0 g0 G G2 s V M M2 g2) : ∀ t, t < 16 → aI g2 (M2.f 55) t = nI (V t) := h.2.2.2.2.2.2.2.2.1
theorem DON.rlo {M0 : MA} {g0 : Sg} {G G2 : AG} {s : Nat} {V : Nat → Nat} {M M2 : MA} {g2 : Sg} (h : DON M0 g0 G G2 s V M M2 g2) : ∀ t, t ≠ s → M2.rl t = M.rl t := h.2.2.2.2.2.2.2.2.2.1
theorem DON.rln {M0 : MA} {g0 : Sg} {G G2 : AG} {s : Nat} {V : Nat → Nat} {M M2 : MA} {g2 : Sg} (h : DON M0 g0 G G2 s V M M2 g2) : M2.rl s = if G.ct s = M.rl s then 2 * M.rl s else M.rl s := h.2.2.2.2.2.2.2.2.2.2
theorem DON.mk {M0 : MA} {g0 : Sg} {G G2 : AG} {s : Nat} {V : Nat → Nat} {M M2 : MA} {g2 : Sg} (h0 : RM G2 M2 g2) (h1 : fM M0 g0 g2) (h2 : ∀ f, fI g2 f M2.m = fI g0 f M2.m) (h3 : M2.m = M0.m) (h4 : M2.gr = M0.gr) (h5 : M2.f = M0.f) (h6 : ∀ s, s < 16 → M2.rw s = M0.rw s ∨ hT g0 (M2.rw s) = none) (h7 : M2.ho = 8192) (h8 : ∀ t, t < 16 → aI g2 (M2.f 55) t = nI (V t)) (h9 : ∀ t, t ≠ s → M2.rl t = M.rl t) (h10 : M2.rl s = if G.ct s = M.rl s then 2 * M.rl s else M.rl s) : DON M0 g0 G G2 s V M M2 g2 := ⟨h0, h1, h2, h3, h4, h5, h6, h7, h8, h9, h10⟩
theorem ADD.don {s : Nat} {F3 R3 : Nat → Nat → Int32} {I3 : Nat → Int32} {g3 : Sg} (hw2 : WF G2) (hA : ADD z M0 g0 G s W V M M2 g2 F2 R2 I2) (hP : PM M0 g0 M2 g3 F3 R3 I3) (hq : RMq G2 M2.rl 8192 F3 R3 I3) (h55 : F3 55 = F2 55) : DON M0 g0 G G2 s V M (MA.mk M2.m M2.gr M2.f M2.rw M2.rl 8192) g3 := by
  have hP' := hP.ho 8192
  refine DON.mk (hP'.rm hw2 hq) hP.m hP.j hP.em hP.eg hP.ef hP.er rfl (fun t ht => ?_) hA.rlo hA.rln
  rw [hP'.a 55 (by decide), h55]
  exact hA.n55 t ht
def RMn (G : AG) (s : Nat) (W : Nat → Nat) (rl : Nat → Nat) (F R : Nat → Nat → Int32) (I : Nat → Int32) : Prop := (I 29 = nI (G.ne + 1)) ∧ (I 30 = nI G.na) ∧ (I 31 = nI ((od G).length - 1)) ∧ (chI (F 42) (I 46) ((G.k 0 true).map (· - 1))) ∧ (∀ t, t < G.na → F 32 t = nI (G.nm t)) ∧ (∀ t, t < 16 → F 33 t = nI (if t < G.na then ug G.ct s (G.ct s + 1) t else 0)) ∧ (∀ t n, t < G.na → n < ug G.ct s (G.ct s + 1) t → R t n = nI (if t = s ∧ n = G.ct s then G.ne else G.ev t n)) ∧ (∀ t, t < G.na → ug G.ct s (G.ct s + 1) t ≤ rl t) ∧ (∀ e, e < G.ne + 1 → F 35 e = nI (ug G.sl G.ne s e)) ∧ (∀ e, e < G.ne + 1 → F 36 e = nI (ug G.nu G.ne (G.ct s) e)) ∧ (∀ e t, e < G.ne + 1 → t < 16 → F 37 (16 * e + t) = nI (ug G.pa G.ne W e t)) ∧ (∀ e, e < G.ne → F 38 e = if G.ins e = true then 1 else 0) ∧ (∀ e, e < G.ne → G.ins e = true → F 40 e = G.cd e) ∧ (∀ e, e < G.ne → G.ins e = true → chI (F 42) (F 43 e) ((G.k (e + 1) false).map (· - 1))) ∧ (∀ e, e < G.ne → G.ins e = true → chI (F 42) (F 44 e) ((G.k (e + 1) true).map (· - 1))) ∧ (∀ e, e < G.ne → G.ins e = true → chI (F 48) (F 49 e) (G.de e)) ∧ (∀ i x, (od G)[i + 1]? = some x → F 50 i = nI (x - 1))
theorem RMn.ne {G : AG} {s : Nat} {W : Nat → Nat} {rl : Nat → Nat} {F R : Nat → Nat → Int32} {I : Nat → Int32} (h : RMn G s W rl F R I) : I 29 = nI (G.ne + 1) := h.1
theorem RMn.na {G : AG} {s : Nat} {W : Nat → Nat} {rl : Nat → Nat} {F R : Nat → Nat → Int32} {I : Nat → Int32} (h : RMn G s W rl F R I) : I 30 = nI G.na := h.2.1
theorem RMn.no {G : AG} {s : Nat} {W : Nat → Nat} {rl : Nat → Nat} {F R : Nat → Nat → Int32} {I : Nat → Int32} (h : RMn G s W rl F R I) : I 31 = nI ((od G).length - 1) := h.2.2.1
theorem RMn.rc {G : AG} {s : Nat} {W : Nat → Nat} {rl : Nat → Nat} {F R : Nat → Nat → Int32} {I : Nat → Int32} (h : RMn G s W rl F R I) : chI (F 42) (I 46) ((G.k 0 true).map (· - 1)) := h.2.2.2.1
theorem RMn.nm {G : AG} {s : Nat} {W : Nat → Nat} {rl : Nat → Nat} {F R : Nat → Nat → Int32} {I : Nat → Int32} (h : RMn G s W rl F R I) : ∀ t, t < G.na → F 32 t = nI (G.nm t) := h.2.2.2.2.1
theorem RMn.ct {G : AG} {s : Nat} {W : Nat → Nat} {rl : Nat → Nat} {F R : Nat → Nat → Int32} {I : Nat → Int32} (h : RMn G s W rl F R I) : ∀ t, t < 16 → F 33 t = nI (if t < G.na then ug G.ct s (G.ct s + 1) t else 0) := h.2.2.2.2.2.1
theorem RMn.ev {G : AG} {s : Nat} {W : Nat → Nat} {rl : Nat → Nat} {F R : Nat → Nat → Int32} {I : Nat → Int32} (h : RMn G s W rl F R I) : ∀ t n, t < G.na → n < ug G.ct s (G.ct s + 1) t → R t n = nI (if t = s ∧ n = G.ct s then G.ne else G.ev t n) := h.2.2.2.2.2.2.1
theorem RMn.rw {G : AG} {s : Nat} {W : Nat → Nat} {rl : Nat → Nat} {F R : Nat → Nat → Int32} {I : Nat → Int32} (h : RMn G s W rl F R I) : ∀ t, t < G.na → ug G.ct s (G.ct s + 1) t ≤ rl t := h.2.2.2.2.2.2.2.1
theorem RMn.sl {G : AG} {s : Nat} {W : Nat → Nat} {rl : Nat → Nat} {F R : Nat → Nat → Int32} {I : Nat → Int32} (h : RMn G s W rl F R I) : ∀ e, e < G.ne + 1 → F 35 e = nI (ug G.sl G.ne s e) := h.2.2.2.2.2.2.2.2.1
theorem RMn.nu {G : AG} {s : Nat} {W : Nat → Nat} {rl : Nat → Nat} {F R : Nat → Nat → Int32} {I : Nat → Int32} (h : RMn G s W rl F R I) : ∀ e, e < G.ne + 1 → F 36 e = nI (ug G.nu G.ne (G.ct s) e) := h.2.2.2.2.2.2.2.2.2.1
theorem RMn.pa {G : AG} {s : Nat} {W : Nat → Nat} {rl : Nat → Nat} {F R : Nat → Nat → Int32} {I : Nat → Int32} (h : RMn G s W rl F R I) : ∀ e t, e < G.ne + 1 → t < 16 → F 37 (16 * e + t) = nI (ug G.pa G.ne W e t) := h.2.2.2.2.2.2.2.2.2.2.1
theorem RMn.ins {G : AG} {s : Nat} {W : Nat → Nat} {rl : Nat → Nat} {F R : Nat → Nat → Int32} {I : Nat → Int32} (h : RMn G s W rl F R I) : ∀ e, e < G.ne → F 38 e = if G.ins e = true then 1 else 0 := h.2.2.2.2.2.2.2.2.2.2.2.1
theorem RMn.cd {G : AG} {s : Nat} {W : Nat → Nat} {rl : Nat → Nat} {F R : Nat → Nat → Int32} {I : Nat → Int32} (h : RMn G s W rl F R I) : ∀ e, e < G.ne → G.ins e = true → F 40 e = G.cd e := h.2.2.2.2.2.2.2.2.2.2.2.2.1
theorem RMn.lc {G : AG} {s : Nat} {W : Nat → Nat} {rl : Nat → Nat} {F R : Nat → Nat → Int32} {I : Nat → Int32} (h : RMn G s W rl F R I) : ∀ e, e < G.ne → G.ins e = true → chI (F 42) (F 43 e) ((G.k (e + 1) false).map (· - 1)) := h.2.2.2.2.2.2.2.2.2.2.2.2.2.1
theorem RMn.rch {G : AG} {s : Nat} {W : Nat → Nat} {rl : Nat → Nat} {F R : Nat → Nat → Int32} {I : Nat → Int32} (h : RMn G s W rl F R I) : ∀ e, e < G.ne → G.ins e = true → chI (F 42) (F 44 e) ((G.k (e + 1) true).map (· - 1)) := h.2.2.2.2.2.2.2.2.2.2.2.2.2.2.1
theorem RMn.de {G : AG} {s : Nat} {W : Nat → Nat} {rl : Nat → Nat} {F R : Nat → Nat → Int32} {I : Nat → Int32} (h : RMn G s W rl F R I) : ∀ e, e < G.ne → G.ins e = true → chI (F 48) (F 49 e) (G.de e) := h.2.2.2.2.2.2.2.2.2.2.2.2.2.2.2.1
theorem RMn.ord {G : AG} {s : Nat} {W : Nat → Nat} {rl : Nat → Nat} {F R : Nat → Nat → Int32} {I : Nat → Int32} (h : RMn G s W rl F R I) : ∀ i x, (od G)[i + 1]? = some x → F 50 i = nI (x - 1) := h.2.2.2.2.2.2.2.2.2.2.2.2.2.2.2.2
theorem RMn.mk {G : AG} {s : Nat} {W : Nat → Nat} {rl : Nat → Nat} {F R : Nat → Nat → Int32} {I : Nat → Int32} (h0 : I 29 = nI (G.ne + 1)) (h1 : I 30 = nI G.na) (h2 : I 31 = nI ((od G).length - 1)) (h3 : chI (F 42) (I 46) ((G.k 0 true).map (· - 1))) (h4 : ∀ t, t < G.na → F 32 t = nI (G.nm t)) (h5 : ∀ t, t < 16 → F 33 t = nI (if t < G.na then ug G.ct s (G.ct s + 1) t else 0)) (h6 : ∀ t n, t < G.na → n < ug G.ct s (G.ct s + 1) t → R t n = nI (if t = s ∧ n = G.ct s then G.ne else G.ev t n)) (h7 : ∀ t, t < G.na → ug G.ct s (G.ct s + 1) t ≤ rl t) (h8 : ∀ e, e < G.ne + 1 → F 35 e = nI (ug G.sl G.ne s e)) (h9 : ∀ e, e < G.ne + 1 → F 36 e = nI (ug G.nu G.ne (G.ct s) e)) (h10 : ∀ e t, e < G.ne + 1 → t < 16 → F 37 (16 * e + t) = nI (ug G.pa G.ne W e t)) (h11 : ∀ e, e < G.ne → F 38 e = if G.ins e = true then 1 else 0) (h12 : ∀ e, e < G.ne → G.ins e = true → F 40 e = G.cd e) (h13 : ∀ e, e < G.ne → G.ins e = true → chI (F 42) (F 43 e) ((G.k (e + 1) false).map (· - 1))) (h14 : ∀ e, e < G.ne → G.ins e = true → chI (F 42) (F 44 e) ((G.k (e + 1) true).map (· - 1))) (h15 : ∀ e, e < G.ne → G.ins e = true → chI (F 48) (F 49 e) (G.de e)) (h16 : ∀ i x, (od G)[i + 1]? = some x → F 50 i = nI (x - 1)) : RMn G s W rl F R I := ⟨h0, h1, h2, h3, h4, h5, h6, h7, h8, h9, h10, h11, h12, h13, h14, h15, h16⟩
theorem RMq.n {s : Nat} (hq : RMq (addN G s W) rl G.ne F R I) : RMn G s W rl F R I := by
  have l1 : ∀ e, e < G.ne → e < (addN G s W).ne := fun e he => Nat.lt_succ_of_lt he
  have l2 : ∀ e, e < G.ne → (addN G s W).ins e = G.ins e := fun e he => ug_ne (by omega)
  refine RMn.mk hq.ne hq.na hq.no hq.rc hq.nm hq.ct hq.ev hq.rl hq.sl hq.nu hq.pa (fun e he => ?_) (fun e he hi => hq.cd e (l1 e he) ((l2 e he).trans hi)) (fun e he hi => hq.lc e (l1 e he) ((l2 e he).trans hi)) (fun e he hi => hq.rch e (l1 e he) ((l2 e he).trans hi)) (fun e he hi => hq.de e (l1 e he) ((l2 e he).trans hi)) hq.ord
  have := hq.ins e (l1 e he) (by omega)
  rw [l2 e he] at this
  exact this
theorem q_addD (hw : WF G) {s y : Nat} (ok : okE G s W) (hy : y < G.ne) (hi : G.ins y = true) (hq : RMn G s W rl F R I) (h38 : F2 38 = ug (F 38) G.ne 0) (h48 : F2 48 = ug (F 48) G.ne (F 49 y)) (h49 : F2 49 = ug (F 49) y (nI G.ne)) (hF : ∀ i, i ≠ 38 → i ≠ 48 → i ≠ 49 → i ≠ 39 → i ≠ 47 → F2 i = F i) : RMq (addD G s W y) rl 8192 F2 R I := by
  have e32 := hF 32 (by decide) (by decide) (by decide) (by decide) (by decide)
  have e33 := hF 33 (by decide) (by decide) (by decide) (by decide) (by decide)
  have e35 := hF 35 (by decide) (by decide) (by decide) (by decide) (by decide)
  have e36 := hF 36 (by decide) (by decide) (by decide) (by decide) (by decide)
  have e37 := hF 37 (by decide) (by decide) (by decide) (by decide) (by decide)
  have e40 := hF 40 (by decide) (by decide) (by decide) (by decide) (by decide)
  have e42 := hF 42 (by decide) (by decide) (by decide) (by decide) (by decide)
  have e43 := hF 43 (by decide) (by decide) (by decide) (by decide) (by decide)
  have e44 := hF 44 (by decide) (by decide) (by decide) (by decide) (by decide)
  have e50 := hF 50 (by decide) (by decide) (by decide) (by decide) (by decide)
  have hin : ∀ e, e < G.ne + 1 → ug G.ins G.ne false e = true → e < G.ne ∧ G.ins e = true := fun e he h => by
    by_cases h1 : e = G.ne
    · rw [h1, ug_at] at h; cases h
    · rw [ug_ne h1] at h; exact ⟨by omega, h⟩
  refine RMq.mk hq.ne hq.na hq.no ?_ ?_ ?_ hq.ev hq.rw ?_ ?_ ?_ (fun e he _ => ?_) (fun e he hie => ?_) (fun e he hie => ?_) (fun e he hie => ?_) (fun e he hie => ?_) ?_
  · rw [e42]; exact hq.rc
  · rw [e32]; exact hq.nm
  · rw [e33]; exact hq.ct
  · rw [e35]; exact hq.sl
  · rw [e36]; exact hq.nu
  · rw [e37]; exact hq.pa
  · have he' : e < G.ne + 1 := he
    show F2 38 e = if ug G.ins G.ne false e = true then 1 else 0
    rw [h38]
    by_cases h : e = G.ne
    · subst h; rw [ug_at, ug_at]; rfl
    · rw [ug_ne h, ug_ne h]; exact hq.ins e (by omega)
  · obtain ⟨h1, h2⟩ := hin e he hie
    rw [e40]; exact hq.cd e h1 h2
  · obtain ⟨h1, h2⟩ := hin e he hie
    rw [e42, e43]; exact hq.lc e h1 h2
  · obtain ⟨h1, h2⟩ := hin e he hie
    rw [e42, e44]; exact hq.rch e h1 h2
  · obtain ⟨h1, h2⟩ := hin e he hie
    have hq0 := hq.de e h1 h2
    have hmem : ∀ x ∈ G.de e, ug (F 48) G.ne (F 49 y) x = F 48 x := fun x hx => ug_ne (by have := (hw.de_lt e x hx).2.1; omega)
    show chI (F2 48) (F2 49 e) (ug G.de y (G.ne :: G.de y) e)
    rw [h48, h49]
    by_cases h : e = y
    · subst h
      rw [ug_at, ug_at]
      refine ⟨rfl, ?_⟩
      rw [ug_at]
      exact chI_cg _ _ hmem hq0
    · rw [ug_ne h, ug_ne h]
      exact chI_cg _ _ hmem hq0
  · rw [e50]; exact hq.ord
theorem nar0 : vp_nar .boolean (0 : Int32) = 0 := by decide
theorem nar1 : vp_nar .boolean (1 : Int32) = 1 := by decide
theorem t_erase (hw : WF G) {s i : Nat} (ok : okE G s W) (hWb : ∀ t, t < 16 → W t ≤ 8192) (hA : ADD z M0 g0 G s W V M M2 g2 F2 R2 I2) (hi : i < (seL G W).length) {post : Sg → Prop}
    (k : ∀ G2 M3 g3, stD G s W i G2 → WF G2 → DON M0 g0 G G2 s V M M3 g3 → post g3) : w_G_erase z mi mc ms post g2 M2.gr (nI G.ne) (nI i) := by
  have hne := ok.ne
  have hw1 := wf_addN hw ok
  have hR := hA.rm hw1
  have hP := hA.P
  have hg := hP.k.gr
  have e16 : (16 : Int32) * nI G.ne = nI (16 * G.ne) := by have := mul16 G.ne 0; rw [Nat.add_zero] at this; rw [← this]; exact (Int32.add_zero _).symm
  unfold w_G_erase
  (refine ⟨?_, ?_⟩; (focus (first | exact hasI_of (by assumption) (by decide) | exact hasR_of (by assumption) (by decide))); rintro _ rfl; try rw [hP.f.f 50 (by decide)])
  (refine ⟨?_, ?_⟩; (focus (first | exact hasI_of (by assumption) (by decide) | exact hasR_of (by assumption) (by decide))); rintro _ rfl; try rw [hP.f.f 37 (by decide)])
  rw [e16]
  refine ⟨⟨_, _, by assumption, by decide⟩, 0, 0, by omega, by omega, ?_⟩
  refine t_seenAt hw1 hR (hA.vs hne hWb) (by rw [seL_N hw]; exact hi) (fun u x v ho hc hs => ?_)
  have ho' : od G = 0 :: (u ++ x :: v) := ho
  have hxo : x ∈ od G := by rw [ho']; simp
  have hlen := od_len hw
  rw [ho'] at hlen
  simp only [List.length_cons, List.length_append] at hlen
  have hx0 : x ≠ 0 := fun h => by
    have hn := hw.nodup
    rw [ho', h] at hn
    exact (List.nodup_cons.mp hn).1 (by simp)
  obtain ⟨y, rfl, hy, hyi⟩ := ((hw.mem x).mp hxo).resolve_left hx0
  have hord : aI g2 (M2.f 50) u.length = nI y := by
    have := hR.c.ord u.length (y + 1) (by show (od G)[u.length + 1]? = _; rw [ho']; simp)
    exact this
  refine ⟨_, rfl, ?_⟩
  (refine ⟨u.length, ⟨_, hP.k.f 50 (by decide), rfl, by show u.length < 8192; omega, by decide⟩, ?_⟩; rintro _ rfl; try rw [hord])
  (refine ⟨?_, ?_⟩; (focus (first | exact hasI_of (by assumption) (by decide) | exact hasR_of (by assumption) (by decide))); rintro _ rfl; try rw [hP.f.f 39 (by decide)])
  refine ⟨_, rfl, ?_⟩
  refine ⟨G.ne, ⟨_, hP.k.f 39 (by decide), rfl, hne, by decide⟩, ?_⟩
  intro g3 e3
  have hP3 := hP.sF 39 (by decide) G.ne (nI i)
  rw [← e3] at hP3
  clear e3
  have hg3 := hP3.k.gr
  (refine ⟨?_, ?_⟩; (focus (first | exact hasI_of (by assumption) (by decide) | exact hasR_of (by assumption) (by decide))); rintro _ rfl; try rw [hP3.f.f 38 (by decide)])
  refine ⟨_, rfl, ?_⟩
  refine ⟨G.ne, ⟨_, hP3.k.f 38 (by decide), rfl, hne, by decide⟩, ?_⟩
  intro g4 e4
  rw [nar0] at e4
  have hP4 := hP3.sF 38 (by decide) G.ne 0
  rw [← e4] at hP4
  clear e4
  have hg4 := hP4.k.gr
  (refine ⟨?_, ?_⟩; (focus (first | exact hasI_of (by assumption) (by decide) | exact hasR_of (by assumption) (by decide))); rintro _ rfl; try rw [hP4.f.f 47 (by decide)])
  refine ⟨_, rfl, ?_⟩
  refine ⟨G.ne, ⟨_, hP4.k.f 47 (by decide), rfl, hne, by decide⟩, ?_⟩
  intro g5 e5
  have hP5 := hP4.sF 47 (by decide) G.ne (nI y)
  rw [← e5] at hP5
  clear e5
  have hg5 := hP5.k.gr
  have v49 : aI g5 (M2.f 49) y = F2 49 y := by rw [hP5.a 49 (by decide)]; rfl
  (refine ⟨?_, ?_⟩; (focus (first | exact hasI_of (by assumption) (by decide) | exact hasR_of (by assumption) (by decide))); rintro _ rfl; try rw [hP5.f.f 48 (by decide)])
  (refine ⟨?_, ?_⟩; (focus (first | exact hasI_of (by assumption) (by decide) | exact hasR_of (by assumption) (by decide))); rintro _ rfl; try rw [hP5.f.f 49 (by decide)])
  refine ⟨_, rfl, ?_⟩
  (refine ⟨y, ⟨_, hP5.k.f 49 (by decide), rfl, by show y < 8192; omega, by decide⟩, ?_⟩; rintro _ rfl; try rw [v49])
  refine ⟨_, rfl, ?_⟩
  refine ⟨G.ne, ⟨_, hP5.k.f 48 (by decide), rfl, hne, by decide⟩, ?_⟩
  intro g6 e6
  have hP6 := hP5.sF 48 (by decide) G.ne (F2 49 y)
  rw [← e6] at hP6
  clear e6
  have hg6 := hP6.k.gr
  (refine ⟨?_, ?_⟩; (focus (first | exact hasI_of (by assumption) (by decide) | exact hasR_of (by assumption) (by decide))); rintro _ rfl; try rw [hP6.f.f 49 (by decide)])
  refine ⟨_, rfl, ?_⟩
  refine ⟨y, ⟨_, hP6.k.f 49 (by decide), rfl, by show y < 8192; omega, by decide⟩, ?_⟩
  intro g7 e7
  have hP7 := hP6.sF 49 (by decide) y (nI G.ne)
  rw [← e7] at hP7
  clear e7
  have hx : sb G W (y + 1) = true := by rw [← sb_N (s := s) hw hxo]; exact hs
  have h0 : sb G W 0 = false := by simp [sb]
  refine k (addD G s W y) _ g7 ⟨0 :: u, y + 1, v, ho', ?_, hx, rfl⟩ (wf_addD hw ok hy hyi) (hA.don (wf_addD hw ok hy hyi) hP7 (q_addD hw ok hy hyi hA.q.n rfl rfl rfl (fun i h1 h2 h3 h4 h5 => ?_)) rfl)
  · rw [List.filter_cons_of_neg (by rw [h0]; decide), ← hc, flt_N hw (fun q hq => by rw [ho']; simp [hq])]
  · rw [ug_ne h3, ug_ne h2, ug_ne h5, ug_ne h1, ug_ne h4]
end MERA
