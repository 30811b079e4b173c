section MADD
variable {z mi mc ms : Nat} {G G2 : AG} {M M0 M2 : MA} {g g0 g2 : Sg} {L : List Nat} {V W : Nat → Nat} {F R F2 R2 : Nat → Nat → Int32} {I I2 : Nat → Int32} {rl rl2 : Nat → Nat} {ho : Nat}
theorem chI_cg {f f' : Nat → Int32} : ∀ (l : List Nat) (v : Int32), (∀ x ∈ l, f' x = f x) → chI f v l → chI f' v l := by
  intro l
  induction l with
  | nil => exact fun v _ h => h
  | cons e l ih =>
    intro v hx h
    refine ⟨h.1, ?_⟩
    rw [hx e List.mem_cons_self]
    exact ih _ (fun x hxl => hx x (List.mem_cons_of_mem _ hxl)) h.2
theorem km_lt (hw : WF G) {p : Nat} {b : Bool} : ∀ x ∈ (G.k p b).map (· - 1), x < G.ne := fun x hx => by
  obtain ⟨y, hy, rfl⟩ := List.mem_map.mp hx
  exact (k_ev hw hy).1
theorem q_addA (hw : WF G) (hn : G.na < 16) (hq : RMq G rl ho F R I) {x : Nat} : RMq (addA G x) rl ho (ug F 32 (ug (F 32) G.na (nI x))) R (ug I 30 (nI (G.na + 1))) := by
  have sp : ∀ s, s < G.na + 1 → s < G.na ∨ s = G.na := fun s hs => by omega
  refine RMq.mk hq.ne rfl hq.no hq.rc (fun s hs => ?_) (fun s hs => ?_) (fun s n hs hn' => ?_) (fun s hs => ?_) hq.sl hq.nu hq.pa hq.ins hq.cd hq.lc hq.rch hq.de hq.ord
  · show ug (F 32) G.na (nI x) s = nI (ug G.nm G.na x s)
    rcases sp s hs with h | rfl
    · rw [ug_ne (by omega), ug_ne (by omega)]; exact hq.nm s h
    · rw [ug_at, ug_at]
  · show F 33 s = nI (if s < G.na + 1 then ug G.ct G.na 0 s else 0)
    rw [hq.ct s hs]
    by_cases h : s < G.na
    · rw [if_pos h, if_pos (by omega), ug_ne (by omega)]
    · by_cases h2 : s = G.na
      · subst h2; rw [if_neg h, if_pos (by omega), ug_at]
      · rw [if_neg h, if_neg (by omega)]
  · have hn2 : n < ug G.ct G.na 0 s := hn'
    rcases sp s hs with h | rfl
    · rw [ug_ne (by omega)] at hn2; exact hq.ev s n h hn2
    · rw [ug_at] at hn2; omega
  · show ug G.ct G.na 0 s ≤ rl s
    rcases sp s hs with h | rfl
    · rw [ug_ne (by omega)]; exact hq.rl s h
    · rw [ug_at]; exact Nat.zero_le _
theorem q_addN (hw : WF G) {s : Nat} (ok : okE G s W) (hq : RMq G rl ho F R I) (hho : G.ne ≤ ho) (h29 : I2 29 = nI (G.ne + 1)) (hI : ∀ f, f ≠ 29 → I2 f = I f) (hF : ∀ i, i = 32 ∨ i = 38 ∨ i = 40 ∨ i = 48 ∨ i = 50 → F2 i = F i) (h33 : F2 33 = ug (F 33) s (nI (G.ct s + 1)))
    (h35 : F2 35 = ug (F 35) G.ne (nI s)) (h36 : F2 36 = ug (F 36) G.ne (nI (G.ct s))) (h37 : ∀ j, j < 16 * G.ne → F2 37 j = F 37 j) (h37n : ∀ t, t < 16 → F2 37 (16 * G.ne + t) = nI (W t)) (h4 : ∀ i, i = 42 ∨ i = 43 ∨ i = 44 ∨ i = 49 → ∀ e, e < G.ne → F2 i e = F i e)
    (hR : ∀ t n, t < G.na → n < G.ct t → R2 t n = R t n) (hRn : R2 s (G.ct s) = nI G.ne) (hrl : ∀ t, t < G.na → ug G.ct s (G.ct s + 1) t ≤ rl2 t) : RMq (addN G s W) rl2 G.ne F2 R2 I2 := by
  have hs := ok.s
  have hne := ok.ne
  have hna := hw.na_le
  have sp : ∀ e, e < G.ne + 1 → e < G.ne ∨ e = G.ne := fun e he => by omega
  have hin : ∀ e, e < G.ne + 1 → ug G.ins G.ne false e = true → e < G.ne ∧ G.ins e = true := fun e he h => by
    rcases sp e he with h1 | rfl
    · rw [ug_ne (by omega)] at h; exact ⟨h1, h⟩
    · rw [ug_at] at h; cases h
  refine RMq.mk h29 ((hI 30 (by decide)).trans hq.na) ((hI 31 (by decide)).trans hq.no) ?_ ?_ (fun t ht => ?_) (fun t n ht hn => ?_) hrl (fun e he => ?_) (fun e he => ?_) (fun e t he ht => ?_) (fun e he hh => ?_) (fun e he hi => ?_) (fun e he hi => ?_) (fun e he hi => ?_) (fun e he hi => ?_) ?_
  · rw [hI 46 (by decide)]
    exact chI_cg _ _ (fun x hx => h4 42 (by decide) x (km_lt hw x hx)) hq.rc
  · rw [hF 32 (by decide)]; exact hq.nm
  · rw [h33]
    show _ = nI (if t < G.na then ug G.ct s (G.ct s + 1) t else 0)
    by_cases h : t = s
    · subst h; rw [ug_at, if_pos hs, ug_at]
    · rw [ug_ne h, ug_ne h]; exact hq.ct t ht
  · have hn' : n < ug G.ct s (G.ct s + 1) t := hn
    show R2 t n = nI (if t = s ∧ n = G.ct s then G.ne else G.ev t n)
    by_cases h : t = s ∧ n = G.ct s
    · rw [if_pos h, h.1, h.2]; exact hRn
    · rw [if_neg h]
      have : n < G.ct t := by
        by_cases hts : t = s
        · subst hts; rw [ug_at] at hn'
          have : n ≠ G.ct t := fun e => h ⟨rfl, e⟩
          omega
        · rw [ug_ne hts] at hn'; exact hn'
      rw [hR t n ht this]
      exact hq.ev t n ht this
  · rw [h35]
    show _ = nI (ug G.sl G.ne s e)
    rcases sp e he with h1 | rfl
    · rw [ug_ne (by omega), ug_ne (by omega)]; exact hq.sl e h1
    · rw [ug_at, ug_at]
  · rw [h36]
    show _ = nI (ug G.nu G.ne (G.ct s) e)
    rcases sp e he with h1 | rfl
    · rw [ug_ne (by omega), ug_ne (by omega)]; exact hq.nu e h1
    · rw [ug_at, ug_at]
  · show _ = nI (ug G.pa G.ne W e t)
    rcases sp e he with h1 | rfl
    · rw [ug_ne (by omega), h37 _ (by omega)]; exact hq.pa e t h1 ht
    · rw [ug_at]; exact h37n t ht
  · rw [hF 38 (by decide)]
    show _ = if ug G.ins G.ne false e = true then 1 else 0
    rcases sp e he with h1 | h1
    · rw [ug_ne (by omega)]; exact hq.ins e h1 (by omega)
    · exact absurd h1 hh
  · obtain ⟨h1, h2⟩ := hin e he hi
    rw [hF 40 (by decide)]; exact hq.cd e h1 h2
  · obtain ⟨h1, h2⟩ := hin e he hi
    rw [h4 43 (by decide) e h1]
    exact chI_cg _ _ (fun x hx => h4 42 (by decide) x (km_lt hw x hx)) (hq.lc e h1 h2)
  · obtain ⟨h1, h2⟩ := hin e he hi
    rw [h4 44 (by decide) e h1]
    exact chI_cg _ _ (fun x hx => h4 42 (by decide) x (km_lt hw x hx)) (hq.rch e h1 h2)
  · obtain ⟨h1, h2⟩ := hin e he hi
    rw [h4 49 (by decide) e h1, hF 48 (by decide)]
    exact hq.de e h1 h2
  · rw [hF 50 (by decide)]; exact hq.ord
def ADD (z : Nat) (M0 : MA) (g0 : Sg) (G : AG) (s : Nat) (W V : Nat → Nat) (M M2 : MA) (g2 : Sg) (F2 R2 : Nat → Nat → Int32) (I2 : Nat → Int32) : Prop := (PM M0 g0 M2 g2 F2 R2 I2) ∧ (RMq (addN G s W) M2.rl G.ne F2 R2 I2) ∧ (M2.ho = G.ne) ∧ (F2 42 G.ne = -1) ∧ (F2 43 G.ne = -1) ∧ (F2 44 G.ne = -1) ∧ (F2 49 G.ne = -1) ∧ (∀ t, t < 16 → F2 55 t = nI (V t)) ∧ (∀ t, t ≠ s → M2.rl t = M.rl t) ∧ (M2.rl s = if G.ct s = M.rl s then 2 * M.rl s else M.rl s)
theorem ADD.P {z : Nat} {M0 : MA} {g0 : Sg} {G : AG} {s : Nat} {W V : Nat → Nat} {M M2 : MA} {g2 : Sg} {F2 R2 : Nat → Nat → Int32} {I2 : Nat → Int32} (h : ADD z M0 g0 G s W V M M2 g2 F2 R2 I2) : PM M0 g0 M2 g2 F2 R2 I2 := h.1
theorem ADD.q {z : Nat} {M0 : MA} {g0 : Sg} {G : AG} {s : Nat} {W V : Nat → Nat} {M M2 : MA} {g2 : Sg} {F2 R2 : Nat → Nat → Int32} {I2 : Nat → Int32} (h : ADD z M0 g0 G s W V M M2 g2 F2 R2 I2) : RMq (addN G s W) M2.rl G.ne F2 R2 I2 := h.2.1
theorem ADD.eh {z : Nat} {M0 : MA} {g0 : Sg} {G : AG} {s : Nat} {W V : Nat → Nat} {M M2 : MA} {g2 : Sg} {F2 R2 : Nat → Nat → Int32} {I2 : Nat → Int32} (h : ADD z M0 g0 G s W V M M2 g2 F2 R2 I2) : M2.ho = G.ne := h.2.2.1
theorem ADD.n42 {z : Nat} {M0 : MA} {g0 : Sg} {G : AG} {s : Nat} {W V : Nat → Nat} {M M2 : MA} {g2 : Sg} {F2 R2 : Nat → Nat → Int32} {I2 : Nat → Int32} (h : ADD z M0 g0 G s W V M M2 g2 F2 R2 I2) : F2 42 G.ne = -1 := h.2.2.2.1
theorem ADD.n43 {z : Nat} {M0 : MA} {g0 : Sg} {G : AG} {s : Nat} {W V : Nat → Nat} {M M2 : MA} {g2 : Sg} {F2 R2 : Nat → Nat → Int32} {I2 : Nat → Int32} (h : ADD z M0 g0 G s W V M M2 g2 F2 R2 I2) : F2 43 G.ne = -1 := h.2.2.2.2.1
theorem ADD.n44 {z : Nat} {M0 : MA} {g0 : Sg} {G : AG} {s : Nat} {W V : Nat → Nat} {M M2 : MA} {g2 : Sg} {F2 R2 : Nat → Nat → Int32} {I2 : Nat → Int32} (h : ADD z M0 g0 G s W V M M2 g2 F2 R2 I2) : F2 44 G.ne = -1 := h.2.2.2.2.2.1
theorem ADD.n49 {z : Nat} {M0 : MA} {g0 : Sg} {G : AG} {s : Nat} {W V : Nat → Nat} {M M2 : MA} {g2 : Sg} {F2 R2 : Nat → Nat → Int32} {I2 : Nat → Int32} (h : ADD z M0 g0 G s W V M M2 g2 F2 R2 I2) : F2 49 G.ne = -1 := h.2.2.2.2.2.2.1
theorem ADD.n55 {z : Nat} {M0 : MA} {g0 : Sg} {G : AG} {s : Nat} {W V : Nat → Nat} {M M2 : MA} {g2 : Sg} {F2 R2 : Nat → Nat → Int32} {I2 : Nat → Int32} (h : ADD z M0 g0 G s W V M M2 g2 F2 R2 I2) : ∀ t, t < 16 → F2 55 t = nI (V t) := h.2.2.2.2.2.2.2.1
theorem ADD.rlo {z : Nat} {M0 : MA} {g0 : Sg} {G : AG} {s : Nat} {W V : Nat → Nat} {M M2 : MA} {g2 : Sg} {F2 R2 : Nat → Nat → Int32} {I2 : Nat → Int32} (h : ADD z M0 g0 G s W V M M2 g2 F2 R2 I2) : ∀ t, t ≠ s → M2.rl t = M.rl t := h.2.2.2.2.2.2.2.2.1
theorem ADD.rln {z : Nat} {M0 : MA} {g0 : Sg} {G : AG} {s : Nat} {W V : Nat → Nat} {M M2 : MA} {g2 : Sg} {F2 R2 : Nat → Nat → Int32} {I2 : Nat → Int32} (h : ADD z M0 g0 G s W V M M2 g2 F2 R2 I2) : M2.rl s = if G.ct s = M.rl s then 2 * M.rl s else M.rl s := h.2.2.2.2.2.2.2.2.2
theorem ADD.mk {z : Nat} {M0 : MA} {g0 : Sg} {G : AG} {s : Nat} {W V : Nat → Nat} {M M2 : MA} {g2 : Sg} {F2 R2 : Nat → Nat → Int32} {I2 : Nat → Int32} (h0 : PM M0 g0 M2 g2 F2 R2 I2) (h1 : RMq (addN G s W) M2.rl G.ne F2 R2 I2) (h2 : M2.ho = G.ne) (h3 : F2 42 G.ne = -1) (h4 : F2 43 G.ne = -1) (h5 : F2 44 G.ne = -1) (h6 : F2 49 G.ne = -1) (h7 : ∀ t, t < 16 → F2 55 t = nI (V t)) (h8 : ∀ t, t ≠ s → M2.rl t = M.rl t) (h9 : M2.rl s = if G.ct s = M.rl s then 2 * M.rl s else M.rl s) : ADD z M0 g0 G s W V M M2 g2 F2 R2 I2 := ⟨h0, h1, h2, h3, h4, h5, h6, h7, h8, h9⟩
theorem t_add150 (hP : PM M0 g0 M g F R I) {e : Nat} (he : e < 8192) (hW : ∀ t, t < 16 → F 55 t = nI (W t)) (hWb : ∀ t, t < 16 → W t ≤ 8192) {post : Int32 → Sg → Prop} {kc ks : Nat}
    (k : ∀ g2 h, (∀ j, j < 16 * e → h j = F 37 j) → (∀ t, t < 16 → h (16 * e + t) = nI (W t)) → PM M0 g0 M g2 (ug (ug (ug (ug (ug F 37 h) 49 (ug (F 49) e (-1))) 43 (ug (F 43) e (-1))) 44 (ug (F 44) e (-1))) 42 (ug (F 42) e (-1))) R I → post (nI e) g2) : w_G_add_150 z mi mc ms post 17 kc ks g M.gr (some (M.f 55)) 0 (nI e) 0 := by
  have loop : ∀ d t, t + d = 16 → ∀ g h, PM M0 g0 M g (ug F 37 h) R I → (∀ j, j < 16 * e → h j = F 37 j) → (∀ r, r < t → h (16 * e + r) = nI (W r)) → w_G_add_150 z mi mc ms post (d + 1) kc ks g M.gr (some (M.f 55)) 0 (nI e) (nI t) := by
    intro d
    induction d with
    | zero =>
      intro t ht g h hP h1 h2
      have et : t = 16 := by omega
      subst et
      have hg := hP.k.gr
      have h16 : (16 : Int32) = nI 16 := rfl
      unfold w_G_add_150
      rw [h16, lI (by omega) (by omega)]
      refine ⟨fun _ => ?_, fun h => absurd (Nat.le_refl _) h⟩
      (refine ⟨?_, ?_⟩; (focus (first | exact hasI_of (by assumption) (by decide) | exact hasR_of (by assumption) (by decide))); rintro _ rfl; try rw [hP.f.f 49 (by decide)])
      refine ⟨_, rfl, ?_⟩
      refine ⟨e, ⟨_, hP.k.f 49 (by decide), rfl, he, by decide⟩, ?_⟩
      intro g1 e1
      have hP1 := hP.sF 49 (by decide) e (-1)
      rw [← e1] at hP1
      clear e1
      have hg1 := hP1.k.gr
      (refine ⟨?_, ?_⟩; (focus (first | exact hasI_of (by assumption) (by decide) | exact hasR_of (by assumption) (by decide))); rintro _ rfl; try rw [hP1.f.f 43 (by decide)])
      refine ⟨_, rfl, ?_⟩
      refine ⟨e, ⟨_, hP1.k.f 43 (by decide), rfl, he, by decide⟩, ?_⟩
      intro g2 e2
      have hP2 := hP1.sF 43 (by decide) e (-1)
      rw [← e2] at hP2
      clear e2
      have hg2 := hP2.k.gr
      (refine ⟨?_, ?_⟩; (focus (first | exact hasI_of (by assumption) (by decide) | exact hasR_of (by assumption) (by decide))); rintro _ rfl; try rw [hP2.f.f 44 (by decide)])
      refine ⟨_, rfl, ?_⟩
      refine ⟨e, ⟨_, hP2.k.f 44 (by decide), rfl, he, by decide⟩, ?_⟩
      intro g3 e3
      have hP3 := hP2.sF 44 (by decide) e (-1)
      rw [← e3] at hP3
      clear e3
      have hg3 := hP3.k.gr
      (refine ⟨?_, ?_⟩; (focus (first | exact hasI_of (by assumption) (by decide) | exact hasR_of (by assumption) (by decide))); rintro _ rfl; try rw [hP3.f.f 42 (by decide)])
      refine ⟨_, rfl, ?_⟩
      refine ⟨e, ⟨_, hP3.k.f 42 (by decide), rfl, he, by decide⟩, ?_⟩
      intro g4 e4
      have hP4 := hP3.sF 42 (by decide) e (-1)
      rw [← e4] at hP4
      exact k g4 h h1 h2 hP4
    | succ d ih =>
      intro t ht g h hP h1 h2
      have hg := hP.k.gr
      have h16 : (16 : Int32) = nI 16 := rfl
      have h55 := hP.a 55 (by decide)
      unfold w_G_add_150
      rw [h16, lI (by omega) (by omega)]
      refine ⟨fun h => absurd h (by omega), fun _ => ?_⟩
      (refine ⟨?_, ?_⟩; (focus (first | exact hasI_of (by assumption) (by decide) | exact hasR_of (by assumption) (by decide))); rintro _ rfl; try rw [hP.f.f 37 (by decide)])
      refine ⟨_, rfl, t, ⟨_, hP.k.f 55 (by decide), Int32.zero_add _, by show t < 16; omega, by decide⟩, ?_⟩
      rintro _ rfl
      refine ⟨_, rfl, 16 * e + t, ⟨_, hP.k.f 37 (by decide), by rw [← h16, mul16], by show 16 * e + t < 131072; omega, by decide⟩, ?_⟩
      intro g1 e1
      have hb := hWb t (by omega)
      have ev : vp_nar .short (aI g (M.f 55) t) = nI (W t) := by
        rw [h55]
        show vp_nar .short (F 55 t) = _
        rw [hW t (by omega), sh1 (by omega)]
      rw [ev] at e1
      have hP1 := hP.sF 37 (by decide) (16 * e + t) (nI (W t))
      rw [← e1] at hP1
      clear e1
      have eF : ug (ug F 37 h) 37 (ug (ug F 37 h 37) (16 * e + t) (nI (W t))) = ug F 37 (ug h (16 * e + t) (nI (W t))) := by
        funext i
        by_cases hi : i = 37
        · subst hi; rw [ug_at, ug_at, ug_at]
        · rw [ug_ne hi, ug_ne hi, ug_ne hi]
      rw [eF] at hP1
      rw [nI_1]
      refine ih (t + 1) (by omega) g1 _ hP1 (fun j hj => ?_) (fun r hr => ?_)
      · rw [ug_ne (by omega)]; exact h1 j hj
      · by_cases hrt : r = t
        · subst hrt; rw [ug_at]
        · rw [ug_ne (by omega)]; exact h2 r (by omega)
  refine loop 16 0 rfl g (F 37) ?_ (fun _ _ => rfl) (fun r hr => absurd hr (Nat.not_lt_zero r))
  have e : ug F 37 (F 37) = F := by
    funext i
    by_cases hi : i = 37
    · subst hi; rw [ug_at]
    · rw [ug_ne hi]
  rw [e]; exact hP
theorem t_add119 (hw : WF G) (hP : PM M0 g0 M2 g F R I) {s : Nat} (ok : okE G s W) (hW : ∀ t, t < 16 → F 55 t = nI (W t)) (hWb : ∀ t, t < 16 → W t ≤ 8192) (hlt : G.ct s < M2.rl s) (h33 : F 33 s = nI (G.ct s)) {post : Int32 → Sg → Prop} {kc ks : Nat}
    (k : ∀ g2 h, (∀ j, j < 16 * G.ne → h j = F 37 j) → (∀ t, t < 16 → h (16 * G.ne + t) = nI (W t)) → PM M0 g0 M2 g2 (ug (ug (ug (ug (ug (ug F 33 (ug (F 33) s (nI (G.ct s + 1)))) 37 h) 49 (ug (F 49) G.ne (-1))) 43 (ug (F 43) G.ne (-1))) 44 (ug (F 44) G.ne (-1))) 42 (ug (F 42) G.ne (-1))) (ug R s (ug (R s) (G.ct s) (nI G.ne))) I → post (nI G.ne) g2) :
    w_G_add_119 z mi mc ms post kc ks g M2.gr (some (M2.f 55)) 0 (nI s) (nI G.ne) := by
  have hg := hP.k.gr
  have hs := ok.s
  have hne := ok.ne
  have hna := hw.na_le
  have hrl := hP.k.rl s (by omega)
  have e33 := hP.a 33 (by decide)
  have v33 : aI g (M2.f 33) s = nI (G.ct s) := by rw [e33]; exact h33
  unfold w_G_add_119
  (refine ⟨?_, ?_⟩; (focus (first | exact hasI_of (by assumption) (by decide) | exact hasR_of (by assumption) (by decide))); rintro _ rfl; try rw [hP.f.f 34 (by decide)])
  refine ⟨_, rfl, ?_⟩
  (refine ⟨s, ⟨_, hP.k.f 34 (by decide), rfl, by show s < 16; omega, by decide⟩, ?_⟩; rintro _ rfl; try rw [hP.f.rw s (by omega)])
  (refine ⟨?_, ?_⟩; (focus (first | exact hasI_of (by assumption) (by decide) | exact hasR_of (by assumption) (by decide))); rintro _ rfl; try rw [hP.f.f 33 (by decide)])
  refine ⟨_, rfl, ?_⟩
  (refine ⟨s, ⟨_, hP.k.f 33 (by decide), rfl, by show s < 16; omega, by decide⟩, ?_⟩; rintro _ rfl; try rw [v33])
  refine ⟨_, rfl, G.ct s, ⟨_, hP.k.rw s (by omega), rfl, hlt, by omega⟩, ?_⟩
  intro g1 e1
  have hP1 := hP.sW s (by omega) (G.ct s) (nI G.ne)
  rw [← e1] at hP1
  clear e1
  have hg1 := hP1.k.gr
  have v33' : aI g1 (M2.f 33) s = nI (G.ct s) := by rw [hP1.a 33 (by decide)]; exact h33
  (refine ⟨?_, ?_⟩; (focus (first | exact hasI_of (by assumption) (by decide) | exact hasR_of (by assumption) (by decide))); rintro _ rfl; try rw [hP1.f.f 33 (by decide)])
  refine ⟨_, rfl, ?_⟩
  (refine ⟨s, ⟨_, hP1.k.f 33 (by decide), rfl, by show s < 16; omega, by decide⟩, ?_⟩; rintro _ rfl; try rw [v33'])
  refine ⟨s, ⟨_, hP1.k.f 33 (by decide), rfl, by show s < 16; omega, by decide⟩, ?_⟩
  intro g2 e2
  rw [nI_1] at e2
  have hP2 := hP1.sF 33 (by decide) s (nI (G.ct s + 1))
  rw [← e2] at hP2
  clear e2
  exact ⟨17, t_add150 hP2 hne hW hWb (fun g3 h h1 h2 hP3 => k g3 h h1 h2 hP3)⟩
theorem t_add36 (hw : WF G) (hP : PM M0 g0 M g F R I) (hq : RMq G M.rl M.ho F R I) (hho : G.ne ≤ M.ho) {s : Nat} (ok : okE G s W) (hW : ∀ t, t < 16 → F 55 t = nI (W t)) (hWb : ∀ t, t < 16 → W t ≤ 8192) {kc ks : Nat} (hkc : kc + 1 ≤ mc) (hks : ks ≤ ms) (hks2 : G.ct s = M.rl s → ks + 2 * M.rl s ≤ ms) {post : Int32 → Sg → Prop}
    (k : ∀ M2 g2 F2 R2 I2, ADD z M0 g0 G s W W M M2 g2 F2 R2 I2 → post (nI G.ne) g2) : w_G_add_36 z mi mc ms post kc ks g M.gr (some (M.f 55)) 0 (nI s) := by
  have hg := hP.k.gr
  have hs := ok.s
  have hne := ok.ne
  have hna := hw.na_le
  have hrl := hP.k.rl s (by omega)
  have hct := hw.ct_le s hs
  have hle := hq.rl s hs
  have h33 : F 33 s = nI (G.ct s) := by rw [hq.ct s (by omega), if_pos hs]
  unfold w_G_add_36
  (refine ⟨?_, ?_⟩; (focus (first | exact hasI_of (by assumption) (by decide) | exact hasR_of (by assumption) (by decide))); rintro _ rfl; try rw [hP.i 29, hq.ne])
  (refine ⟨?_, ?_⟩; (focus (first | exact hasI_of (by assumption) (by decide) | exact hasR_of (by assumption) (by decide))); rintro _ rfl; try rw [hP.i 29, hq.ne])
  refine ⟨hasI_of hg (by decide), ?_⟩
  intro g1 e1
  rw [nI_1] at e1
  have hP1 := hP.wG 29 (by decide) (nI (G.ne + 1))
  rw [← e1] at hP1
  clear e1
  have hg1 := hP1.k.gr
  (refine ⟨?_, ?_⟩; (focus (first | exact hasI_of (by assumption) (by decide) | exact hasR_of (by assumption) (by decide))); rintro _ rfl; try rw [hP1.f.f 35 (by decide)])
  refine ⟨_, rfl, ?_⟩
  refine ⟨G.ne, ⟨_, hP1.k.f 35 (by decide), rfl, hne, by decide⟩, ?_⟩
  intro g2 e2
  have hP2 := hP1.sF 35 (by decide) G.ne (nI s)
  rw [← e2] at hP2
  clear e2
  have hg2 := hP2.k.gr
  have v33 : aI g2 (M.f 33) s = nI (G.ct s) := by rw [hP2.a 33 (by decide)]; exact h33
  (refine ⟨?_, ?_⟩; (focus (first | exact hasI_of (by assumption) (by decide) | exact hasR_of (by assumption) (by decide))); rintro _ rfl; try rw [hP2.f.f 36 (by decide)])
  (refine ⟨?_, ?_⟩; (focus (first | exact hasI_of (by assumption) (by decide) | exact hasR_of (by assumption) (by decide))); rintro _ rfl; try rw [hP2.f.f 33 (by decide)])
  refine ⟨_, rfl, ?_⟩
  (refine ⟨s, ⟨_, hP2.k.f 33 (by decide), rfl, by show s < 16; omega, by decide⟩, ?_⟩; rintro _ rfl; try rw [v33])
  refine ⟨_, rfl, G.ne, ⟨_, hP2.k.f 36 (by decide), rfl, hne, by decide⟩, ?_⟩
  intro g3 e3
  have hP3 := hP2.sF 36 (by decide) G.ne (nI (G.ct s))
  rw [← e3] at hP3
  clear e3
  have hg3 := hP3.k.gr
  have v33' : aI g3 (M.f 33) s = nI (G.ct s) := by rw [hP3.a 33 (by decide)]; exact h33
  (refine ⟨?_, ?_⟩; (focus (first | exact hasI_of (by assumption) (by decide) | exact hasR_of (by assumption) (by decide))); rintro _ rfl; try rw [hP3.f.f 33 (by decide)])
  refine ⟨_, rfl, ?_⟩
  (refine ⟨s, ⟨_, hP3.k.f 33 (by decide), rfl, by show s < 16; omega, by decide⟩, ?_⟩; rintro _ rfl; try rw [v33'])
  (refine ⟨?_, ?_⟩; (focus (first | exact hasI_of (by assumption) (by decide) | exact hasR_of (by assumption) (by decide))); rintro _ rfl; try rw [hP3.f.f 34 (by decide)])
  refine ⟨_, rfl, ?_⟩
  (refine ⟨s, ⟨_, hP3.k.f 34 (by decide), rfl, by show s < 16; omega, by decide⟩, ?_⟩; rintro _ rfl; try rw [hP3.f.rw s (by omega)])
  refine ⟨_, rfl, M.rl s, Or.inl ⟨100, hP3.k.rw s (by omega), by decide, by decide⟩, ?_⟩
  rintro _ rfl
  rw [eI (by omega) (by omega)]
  refine ⟨fun hnd => ?_, fun hd => ?_⟩
  · refine t_add119 hw hP3 ok hW hWb (by omega) h33 (fun g4 h h1 h2 hP4 => ?_)
    refine k (MA.mk M.m M.gr M.f M.rw M.rl G.ne) g4 _ _ _ (ADD.mk (hP4.ho G.ne) ?_ rfl (ug_at _ _ _) (ug_at _ _ _) (ug_at _ _ _) (ug_at _ _ _) hW (fun _ _ => rfl) (by rw [if_neg hnd]; rfl))
    refine q_addN hw ok hq hho (ug_at _ _ _) (fun f hf => ug_ne hf) ?_ rfl rfl rfl h1 h2 ?_ (fun t n ht hn => ?_) ?_ (fun t ht => ?_)
    · rintro i (rfl | rfl | rfl | rfl | rfl) <;> rfl
    · rintro i (rfl | rfl | rfl | rfl) e he
      · exact ug_ne (by omega)
      · exact ug_ne (by omega)
      · exact ug_ne (by omega)
      · exact ug_ne (by omega)
    · by_cases h : t = s
      · subst h; rw [ug_at, ug_ne (by omega)]
      · rw [ug_ne h]
    · rw [ug_at, ug_at]
    · show _ ≤ M.rl t
      by_cases h : t = s
      · subst h; rw [ug_at]; omega
      · rw [ug_ne h]; exact hq.rl t ht
  · have hks3 := hks2 hd
    (refine ⟨?_, ?_⟩; (focus (first | exact hasI_of (by assumption) (by decide) | exact hasR_of (by assumption) (by decide))); rintro _ rfl; try rw [hP3.f.f 34 (by decide)])
    (refine ⟨?_, ?_⟩; (focus (first | exact hasI_of (by assumption) (by decide) | exact hasR_of (by assumption) (by decide))); rintro _ rfl; try rw [hP3.f.f 34 (by decide)])
    refine ⟨_, rfl, ?_⟩
    (refine ⟨s, ⟨_, hP3.k.f 34 (by decide), rfl, by show s < 16; omega, by decide⟩, ?_⟩; rintro _ rfl; try rw [hP3.f.rw s (by omega)])
    (refine ⟨?_, ?_⟩; (focus (first | exact hasI_of (by assumption) (by decide) | exact hasR_of (by assumption) (by decide))); rintro _ rfl; try rw [hP3.f.f 33 (by decide)])
    refine ⟨_, rfl, ?_⟩
    (refine ⟨s, ⟨_, hP3.k.f 33 (by decide), rfl, by show s < 16; omega, by decide⟩, ?_⟩; rintro _ rfl; try rw [v33'])
    refine ⟨1, 2 * M.rl s, by omega, by omega, ?_⟩
    have e2 : (2 : Int32) * nI (G.ct s) = nI (2 * M.rl s) := by
      have h2 : (2 : Int32) = nI 2 := rfl
      rw [h2, hd]
      unfold nI
      rw [← Int32.ofNat_mul]
    rw [e2]
    refine t_copyI (hP3.k.rw s (by omega)) (by omega) (by omega) (by omega) (by omega) (fun b g4 hb hlv hb2 hcp => ?_)
    refine ⟨_, rfl, _, rfl, s, 2 * M.rl s, ⟨_, (hlv.t _ (nn (hP3.k.f 34 (by decide)))).trans (hP3.k.f 34 (by decide)), rfl, by show s < 16; omega, by decide⟩, hb2, ?_⟩
    intro g5 e5
    have hP5 := hP3.dbl (s := s) (by omega) hb hlv hb2 ⟨by omega, by omega⟩
    rw [← e5] at hP5
    clear e5
    refine t_add119 hw hP5 ok hW hWb (by show G.ct s < ug M.rl s (2 * M.rl s) s; rw [ug_at]; omega) h33 (fun g6 h h1 h2 hP6 => ?_)
    refine k (MA.mk M.m M.gr M.f (ug M.rw s b) (ug M.rl s (2 * M.rl s)) G.ne) g6 _ _ _ (ADD.mk (hP6.ho G.ne) ?_ rfl (ug_at _ _ _) (ug_at _ _ _) (ug_at _ _ _) (ug_at _ _ _) hW (fun t ht => ug_ne ht) (by rw [if_pos hd]; exact ug_at _ _ _))
    refine q_addN hw ok hq hho (ug_at _ _ _) (fun f hf => ug_ne hf) ?_ rfl rfl rfl h1 h2 ?_ (fun t n ht hn => ?_) ?_ (fun t ht => ?_)
    · rintro i (rfl | rfl | rfl | rfl | rfl) <;> rfl
    · rintro i (rfl | rfl | rfl | rfl) e he
      · exact ug_ne (by omega)
      · exact ug_ne (by omega)
      · exact ug_ne (by omega)
      · exact ug_ne (by omega)
    · by_cases h : t = s
      · subst h
        rw [ug_at, ug_ne (by omega), ug_at, hcp n (by omega), hP3.w t (by omega)]
      · rw [ug_ne h, ug_ne h]
    · rw [ug_at, ug_at]
    · show _ ≤ ug M.rl s (2 * M.rl s) t
      by_cases h : t = s
      · subst h; rw [ug_at, ug_at]; omega
      · rw [ug_ne h, ug_ne h]; exact hq.rl t ht
theorem t_add (hw : WF G) (hR : RM G M g) (hho : G.ne ≤ M.ho) {x s : Nat} {G0 : AG} (h0 : au G x G0 s) (hw0 : WF G0) (ok : okE G0 s W) (hV : VS g (M.f 55) 0 W) (hmc : 1 ≤ mc) (hms : G0.ct s = M.rl s → 2 * M.rl s ≤ ms) {post : Int32 → Sg → Prop}
    (k : ∀ M2 g2 F2 R2 I2, ADD z M g G0 s W W M M2 g2 F2 R2 I2 → post (nI G.ne) g2) (hx : x ≤ 255) : w_G_add z mi mc ms post g M.gr (nI x) (some (M.f 55)) 0 := by
  have hg := hR.k.gr
  have hna := hw.na_le
  have hWf : ∀ t, t < 16 → aI g (M.f 55) t = nI (W t) := fun t ht => by have := hV.v t ht; rw [Nat.zero_add] at this; exact this
  unfold w_G_add
  refine ⟨⟨_, _, hg, by decide⟩, 0, 0, by omega, by omega, ?_⟩
  rcases h0 with ⟨hs, hn, rfl⟩ | ⟨hno, rfl, rfl⟩
  · refine t_slotOf hw hR (fun t ht htx => ?_) (fun h => absurd (by rw [hn]) (h s hs))
    have hts : t = s := by
      refine hw.nm_inj t s ht hs ?_
      have h1 := hw.nm_le t ht
      have := (eI (by omega) (by omega)).mp htx
      omega
    subst hts
    refine ⟨fun _ => ?_, fun h => absurd (nI_pos' (by omega)) h⟩
    exact t_add36 hw (PM.start hR) hR.q hho ok hWf hV.b (by omega) (by omega) (fun h => by have := hms h; omega) k
  · refine t_slotOf hw hR (fun t ht htx => ?_) (fun h => ⟨fun h => absurd h (by decide), fun _ => ?_⟩)
    · have h1 := hw.nm_le t ht
      have := (eI (by omega) (by omega)).mp htx
      exact absurd this (hno t ht)
    · have hna2 : G.na < 16 := by have := hw0.na_le; have e : (addA G x).na = G.na + 1 := rfl; omega
      have hP := PM.start hR
      (refine ⟨?_, ?_⟩; (focus (first | exact hasI_of (by assumption) (by decide) | exact hasR_of (by assumption) (by decide))); rintro _ rfl; try rw [hR.c.na])
      (refine ⟨?_, ?_⟩; (focus (first | exact hasI_of (by assumption) (by decide) | exact hasR_of (by assumption) (by decide))); rintro _ rfl; try rw [hR.f.f 32 (by decide)])
      refine ⟨_, rfl, ?_⟩
      refine ⟨G.na, ⟨_, hR.k.f 32 (by decide), rfl, hna2, by decide⟩, ?_⟩
      intro g1 e1
      have hP1 := hP.sF 32 (by decide) G.na (nI x)
      rw [← e1] at hP1
      clear e1
      have hg1 := hP1.k.gr
      have hi1 : fI g1 30 M.gr = nI G.na := (hP1.i 30).trans hR.c.na
      (refine ⟨?_, ?_⟩; (focus (first | exact hasI_of (by assumption) (by decide) | exact hasR_of (by assumption) (by decide))); rintro _ rfl; try rw [hi1])
      refine ⟨hasI_of hg1 (by decide), ?_⟩
      intro g2 e2
      rw [nI_1] at e2
      have hP2 := hP1.wG 30 (by decide) (nI (G.na + 1))
      rw [← e2] at hP2
      clear e2
      exact t_add36 hw0 hP2 (q_addA hw hna2 hR.q) hho ok hWf hV.b (by omega) (by omega) (fun h => by have := hms h; omega) k
theorem RMq.fr (hq : RMq G rl ho F R I) (h : ∀ i, i ≠ 39 → i ≠ 41 → i ≠ 45 → i ≠ 47 → i ≠ 52 → i ≠ 53 → i ≠ 55 → F2 i = F i) : RMq G rl ho F2 R I := by
  have e32 := h 32 (by decide) (by decide) (by decide) (by decide) (by decide) (by decide) (by decide)
  have e33 := h 33 (by decide) (by decide) (by decide) (by decide) (by decide) (by decide) (by decide)
  have e35 := h 35 (by decide) (by decide) (by decide) (by decide) (by decide) (by decide) (by decide)
  have e36 := h 36 (by decide) (by decide) (by decide) (by decide) (by decide) (by decide) (by decide)
  have e37 := h 37 (by decide) (by decide) (by decide) (by decide) (by decide) (by decide) (by decide)
  have e38 := h 38 (by decide) (by decide) (by decide) (by decide) (by decide) (by decide) (by decide)
  have e40 := h 40 (by decide) (by decide) (by decide) (by decide) (by decide) (by decide) (by decide)
  have e42 := h 42 (by decide) (by decide) (by decide) (by decide) (by decide) (by decide) (by decide)
  have e43 := h 43 (by decide) (by decide) (by decide) (by decide) (by decide) (by decide) (by decide)
  have e44 := h 44 (by decide) (by decide) (by decide) (by decide) (by decide) (by decide) (by decide)
  have e48 := h 48 (by decide) (by decide) (by decide) (by decide) (by decide) (by decide) (by decide)
  have e49 := h 49 (by decide) (by decide) (by decide) (by decide) (by decide) (by decide) (by decide)
  have e50 := h 50 (by decide) (by decide) (by decide) (by decide) (by decide) (by decide) (by decide)
  refine RMq.mk hq.ne hq.na hq.no ?_ ?_ ?_ hq.ev hq.rl ?_ ?_ ?_ ?_ ?_ ?_ ?_ ?_ ?_
  · rw [e42]; exact hq.rc
  · rw [e32]; exact hq.nm
  · rw [e33]; exact hq.ct
  · rw [e35]; exact hq.sl
  · rw [e36]; exact hq.nu
  · rw [e37]; exact hq.pa
  · rw [e38]; exact hq.ins
  · rw [e40]; exact hq.cd
  · rw [e42, e43]; exact hq.lc
  · rw [e42, e44]; exact hq.rch
  · rw [e48, e49]; exact hq.de
  · rw [e50]; exact hq.ord
theorem t_come (hw : WF G) (hR : RM G M g) (hho : G.ne ≤ M.ho) {x s : Nat} {G0 : AG} (h0 : au G x G0 s) (hw0 : WF G0) (ok : okE G0 s W) (hV : VS g (M.f 55) 0 W) (hmc : 1 ≤ mc) (hms : G0.ct s = M.rl s → 2 * M.rl s ≤ ms) {post : Int32 → Sg → Prop}
    (k : ∀ M2 g2 F2 R2 I2, ADD z M g G0 s W (ug W s (G0.ct s + 1)) M M2 g2 F2 R2 I2 → post (nI G.ne) g2) (hx : x ≤ 255) : w_M_come z mi mc ms post g M.m (nI x) := by
  have hm := hR.k.m
  have hg := hR.k.gr
  have hs := ok.s
  have hne := ok.ne
  have hna := hw0.na_le
  have hct := hw0.ct_le s hs
  have ene := au_ne h0
  unfold w_M_come
  (refine ⟨?_, ?_⟩; (focus (first | exact hasI_of (by assumption) (by decide) | exact hasR_of (by assumption) (by decide))); rintro _ rfl; try rw [hR.f.g])
  (refine ⟨?_, ?_⟩; (focus (first | exact hasI_of (by assumption) (by decide) | exact hasR_of (by assumption) (by decide))); rintro _ rfl; try rw [hR.f.s])
  refine ⟨_, rfl, ?_⟩
  refine ⟨⟨_, _, hg, by decide⟩, mc, ms, by omega, by omega, ?_⟩
  refine t_add hw hR hho h0 hw0 ok hV hmc hms (fun M2 g2 F2 R2 I2 hA => ?_) hx
  have hP := hA.P
  have em := hP.em
  have eg := hP.eg
  have ef := hP.ef
  have hm2 := hP.k.m
  have hg2 := hP.k.gr
  have f51 := hP.f.g
  have f55 := hP.f.s
  have f35 := hP.f.f 35 (by decide)
  have f36 := hP.f.f 36 (by decide)
  rw [em] at hm2 f51 f55
  rw [eg] at hg2 f51 f35 f36
  have hsl : F2 35 G.ne = nI s := by have := hA.q.sl G0.ne (Nat.lt_succ_self _); rw [ene] at this; rw [this]; show nI (ug G0.sl G0.ne s G.ne) = _; rw [ene, ug_at]
  have hnu : F2 36 G.ne = nI (G0.ct s) := by have := hA.q.nu G0.ne (Nat.lt_succ_self _); rw [ene] at this; rw [this]; show nI (ug G0.nu G0.ne (G0.ct s) G.ne) = _; rw [ene, ug_at]
  (refine ⟨?_, ?_⟩; (focus (first | exact hasI_of (by assumption) (by decide) | exact hasR_of (by assumption) (by decide))); rintro _ rfl; try rw [f55])
  (refine ⟨?_, ?_⟩; (focus (first | exact hasI_of (by assumption) (by decide) | exact hasR_of (by assumption) (by decide))); rintro _ rfl; try rw [f51])
  refine ⟨_, rfl, ?_⟩
  (refine ⟨?_, ?_⟩; (focus (first | exact hasI_of (by assumption) (by decide) | exact hasR_of (by assumption) (by decide))); rintro _ rfl; try rw [f35])
  refine ⟨_, rfl, ?_⟩
  (refine ⟨G.ne, ⟨_, hP.k.f 35 (by decide), rfl, by show G.ne < 8192; omega, by decide⟩, ?_⟩; rintro _ rfl; try rw [hP.a 35 (by decide), hsl])
  (refine ⟨?_, ?_⟩; (focus (first | exact hasI_of (by assumption) (by decide) | exact hasR_of (by assumption) (by decide))); rintro _ rfl; try rw [f51])
  refine ⟨_, rfl, ?_⟩
  (refine ⟨?_, ?_⟩; (focus (first | exact hasI_of (by assumption) (by decide) | exact hasR_of (by assumption) (by decide))); rintro _ rfl; try rw [f36])
  refine ⟨_, rfl, ?_⟩
  (refine ⟨G.ne, ⟨_, hP.k.f 36 (by decide), rfl, by show G.ne < 8192; omega, by decide⟩, ?_⟩; rintro _ rfl; try rw [hP.a 36 (by decide), hnu])
  refine ⟨_, rfl, ?_⟩
  refine ⟨s, ⟨_, hP.k.f 55 (by decide), rfl, by show s < 16; omega, by decide⟩, ?_⟩
  intro g3 e3
  rw [nI_1, sh2 (by omega)] at e3
  have hP3 := hP.sF 55 (by decide) s (nI (G0.ct s + 1))
  rw [← e3] at hP3
  clear e3
  refine k M2 g3 _ R2 I2 (ADD.mk hP3 (hA.q.fr (fun i _ _ _ _ _ _ h55 => ug_ne h55)) hA.eh hA.n42 hA.n43 hA.n44 hA.n49 (fun t ht => ?_) hA.rlo hA.rln)
  show ug (F2 55) s (nI (G0.ct s + 1)) t = _
  by_cases h : t = s
  · subst h; rw [ug_at, ug_at]
  · rw [ug_ne h, ug_ne h]; exact hA.n55 t ht
end MADD
