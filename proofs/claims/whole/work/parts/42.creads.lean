section CR
variable {z mi mc ms : Nat} {G : AG} {A : CA} {g : Sg} {L : List Nat} {V : Nat → Nat}
theorem b31 {a : Nat} (h : a ≤ 2000000) : a < 2 ^ 31 := by omega
theorem eI {a b : Nat} (ha : a ≤ 2000000) (hb : b ≤ 2000000) : nI a = nI b ↔ a = b := nI_eq (b31 ha) (b31 hb)
theorem lI {a b : Nat} (ha : a ≤ 2000000) (hb : b ≤ 2000000) : nI a ≤ nI b ↔ a ≤ b := nI_leI (b31 ha) (b31 hb)
theorem tI {a b : Nat} (ha : a ≤ 2000000) (hb : b ≤ 2000000) : nI a < nI b ↔ a < b := nI_ltI (b31 ha) (b31 hb)
theorem zI {a : Nat} (ha : a ≤ 2000000) : nI a = 0 ↔ a = 0 := eI (b := 0) ha (by decide)
theorem pI0 {a : Nat} (ha : a ≤ 2000000) : ¬ nI a < 0 := nI_pos (b31 ha)
theorem ne2M (hw : WF G) : G.ne ≤ 2000000 := Nat.le_trans hw.ne_le (by decide)
theorem na2M (hw : WF G) : G.na ≤ 2000000 := Nat.le_trans hw.na_le (by decide)
theorem ct2M (hw : WF G) {s : Nat} (h : s < G.na) : G.ct s ≤ 2000000 := Nat.le_trans (hw.ct_le s h) (ne2M hw)
theorem nu2M (hw : WF G) {e : Nat} (h : e < G.ne) : G.nu e ≤ 2000000 := Nat.le_trans (Nat.le_of_lt (hw.nu_lt e h)) (ct2M hw (hw.sl_lt e h))
theorem pa2M (hw : WF G) {e : Nat} (h : e < G.ne) (s : Nat) : G.pa e s ≤ 2000000 := by
  by_cases hs : s < G.na
  · exact Nat.le_trans (hw.pa_le e s h hs) (ct2M hw hs)
  · rw [hw.pa_0 e s h (by omega)]; decide
theorem bv2M (hw : WF G) (hR : RC z G A g) {e : Nat} (h : e < G.ne) {s : Nat} (hs : s < 16) : A.bv e s ≤ 2000000 := by
  by_cases hq : s = G.sl e
  · rw [hq]; exact Nat.le_trans (hR.e.own e h) (nu2M hw h)
  · rw [hR.e.pa e s h hs hq]; exact pa2M hw h s
theorem t_findAgent (hw : WF G) (hR : RC z G A g) {post : Option Nat → Sg → Prop} {x : Int32}
    (k1 : ∀ s, s < G.na → nI (G.nm s) = x → post (some (A.ga s)) g) (k2 : (∀ s, s < G.na → nI (G.nm s) ≠ x) → post none g) : w_C_findAgent z mi mc ms post g A.c x := by
  have h1 := hR.k.c
  have h2 := hR.k.ags
  have hna := na2M hw
  have hn16 := hw.na_le
  have key : ∀ d i, i + d = G.na → (∀ s, s < i → nI (G.nm s) ≠ x) → ∀ kc ks, w_C_findAgent_2 z mi mc ms post (d + 1) kc ks g A.c x (nI i) := by
    intro d
    induction d with
    | zero =>
      intro i hi hno kc ks
      unfold w_C_findAgent_2
      (refine ⟨?_, ?_⟩; (focus (first | exact hasI_of (by assumption) (by decide) | exact hasR_of (by assumption) (by decide))); rintro _ rfl; try rw [hR.f.na])
      refine ⟨fun _ => k2 (fun s hs => hno s (by omega)), fun h => absurd ((lI (by omega) (by omega)).mpr (by omega)) h⟩
    | succ d ih =>
      intro i hi hno kc ks
      have hi' : i < G.na := by omega
      have h3 := hR.k.ga i hi'
      unfold w_C_findAgent_2
      (refine ⟨?_, ?_⟩; (focus (first | exact hasI_of (by assumption) (by decide) | exact hasR_of (by assumption) (by decide))); rintro _ rfl; try rw [hR.f.na])
      refine ⟨fun h => absurd ((lI (by omega) (by omega)).mp h) (by omega), fun _ => ?_⟩
      (refine ⟨?_, ?_⟩; (focus (first | exact hasI_of (by assumption) (by decide) | exact hasR_of (by assumption) (by decide))); rintro _ rfl; try rw [hR.f.ags])
      refine ⟨_, rfl, ?_⟩
      (refine ⟨i, ⟨_, h2, rfl, by omega, by decide⟩, ?_⟩; rintro _ rfl; try rw [hR.f.ag i hi'])
      refine ⟨_, rfl, ?_⟩
      (refine ⟨?_, ?_⟩; (focus (first | exact hasI_of (by assumption) (by decide) | exact hasR_of (by assumption) (by decide))); rintro _ rfl; try rw [hR.f.nm i hi'])
      refine ⟨fun hx => ?_, fun hx => ?_⟩
      · rw [nI_1]
        exact ih (i + 1) (by omega) (fun s hs => by
          by_cases hsi : s = i
          · rw [hsi]; exact hx
          · exact hno s (by omega)) kc ks
      · (refine ⟨?_, ?_⟩; (focus (first | exact hasI_of (by assumption) (by decide) | exact hasR_of (by assumption) (by decide))); rintro _ rfl; try rw [hR.f.ags])
        refine ⟨_, rfl, ?_⟩
        (refine ⟨i, ⟨_, h2, rfl, by omega, by decide⟩, ?_⟩; rintro _ rfl; try rw [hR.f.ag i hi'])
        exact k1 i hi' hx
  unfold w_C_findAgent
  exact ⟨_, key G.na 0 (by omega) (fun s hs => absurd hs (by omega)) 0 0⟩
theorem t_size {a n : Nat} {post : Int32 → Sg → Prop} (h1 : hT g a = some (0, 3)) (h2 : fI g 3 a = nI n) (k : post (nI n) g) : w_AL_size z mi mc ms post g a := by
  unfold w_AL_size
  (refine ⟨?_, ?_⟩; (focus (first | exact hasI_of (by assumption) (by decide) | exact hasR_of (by assumption) (by decide))); rintro _ rfl; try rw [h2])
  exact k
theorem t_isEmpty {a n : Nat} {post : Int32 → Sg → Prop} (h1 : hT g a = some (0, 3)) (h2 : fI g 3 a = nI n) (hn : n ≤ 2000000) (k0 : 0 < n → post 0 g) (k1 : n = 0 → post 1 g) : w_AL_isEmpty z mi mc ms post g a := by
  unfold w_AL_isEmpty
  (refine ⟨?_, ?_⟩; (focus (first | exact hasI_of (by assumption) (by decide) | exact hasR_of (by assumption) (by decide))); rintro _ rfl; try rw [h2])
  rw [zI hn]
  exact ⟨fun h => k0 (by omega), k1⟩
theorem t_get {a n d cap i : Nat} {f : Nat → Nat} {post : Option Nat → Sg → Prop} (h1 : hT g a = some (0, 3)) (h2 : fI g 3 a = nI n) (h3 : fR g 2 a = some d) (hr : rowD z (hT g) (aR g) d cap n f) (hi : i < n) (k : post (some (f i)) g) : w_AL_get z mi mc ms post g a (nI i) := by
  obtain ⟨r1, r2, r4, r3⟩ := hr
  unfold w_AL_get
  (refine ⟨?_, ?_⟩; (focus (first | exact hasI_of (by assumption) (by decide) | exact hasR_of (by assumption) (by decide))); rintro _ rfl; try rw [h2])
  refine ⟨0, 0, by omega, by omega, ?_⟩
  unfold w_OB_checkIndex
  refine ⟨0, 0, by omega, by omega, ?_⟩
  unfold w_PC_checkIndex
  refine ⟨fun h => absurd h (pI0 (by omega)), fun _ => ⟨fun _ => ?_, fun h => absurd ((tI (by omega) (by omega)).mpr hi) h⟩⟩
  refine ⟨⟨_, _, by assumption, by decide⟩, 0, 0, by omega, by omega, ?_⟩
  unfold w_AL_elementData
  (refine ⟨?_, ?_⟩; (focus (first | exact hasI_of (by assumption) (by decide) | exact hasR_of (by assumption) (by decide))); rintro _ rfl; try rw [h3])
  refine ⟨_, rfl, ?_⟩
  rcases r3 with ⟨h, -⟩ | ⟨-, h4, h5⟩
  · omega
  · refine ⟨i, ⟨_, h4, rfl, by omega, by omega⟩, ?_⟩
    rintro _ rfl
    rw [h5 i hi]
    exact k
theorem RC.isE (hR : RC z G A g) {e : Nat} (he : e < G.ne) : isK g (A.ea e) [2, 3] := by
  have h := hR.k.ea e he
  by_cases hi : G.ins e = true
  · rw [if_pos hi] at h; exact ⟨_, _, h, by decide⟩
  · rw [if_neg hi] at h; exact ⟨_, _, h, by decide⟩
theorem RC.hI (hR : RC z G A g) {e : Nat} (he : e < G.ne) {f : Nat} (hf : ((hp_fd 2).contains (f, false) && (hp_fd 3).contains (f, false)) = true) : hasI g (A.ea e) f := by
  have h := hR.k.ea e he
  rw [Bool.and_eq_true] at hf
  by_cases hi : G.ins e = true
  · rw [if_pos hi] at h; exact hasI_of h (by rw [hf.2]; decide)
  · rw [if_neg hi] at h; exact hasI_of h (by rw [hf.1]; decide)
theorem RC.hR (hR : RC z G A g) {e : Nat} (he : e < G.ne) {f : Nat} (hf : ((hp_fd 2).contains (f, true) && (hp_fd 3).contains (f, true)) = true) : hasR g (A.ea e) f := by
  have h := hR.k.ea e he
  rw [Bool.and_eq_true] at hf
  by_cases hi : G.ins e = true
  · rw [if_pos hi] at h; exact hasR_of h (by rw [hf.2]; decide)
  · rw [if_neg hi] at h; exact hasR_of h (by rw [hf.1]; decide)
theorem t_latest (hw : WF G) (hR : RC z G A g) {s : Nat} (hs : s < G.na) {post : Option Nat → Sg → Prop} (k0 : G.ct s = 0 → post none g) (k1 : 0 < G.ct s → post (some (A.ea (G.ev s (G.ct s - 1)))) g) : w_A_latest z mi mc ms post g (A.ga s) := by
  have h1 := hR.k.ga s hs
  have h2 := hR.k.hl s hs
  have hc := ct2M hw hs
  unfold w_A_latest
  (refine ⟨?_, ?_⟩; (focus (first | exact hasI_of (by assumption) (by decide) | exact hasR_of (by assumption) (by decide))); rintro _ rfl; try rw [hR.f.hl s hs])
  refine ⟨_, rfl, ?_⟩
  refine ⟨⟨_, _, by assumption, by decide⟩, 0, 0, by omega, by omega, ?_⟩
  refine t_isEmpty h2 (hR.l.hn s hs) hc (fun h0 => ⟨fun _ => ?_, fun h => absurd rfl h⟩) (fun h0 => ⟨fun h => absurd h (by decide), fun _ => k0 h0⟩)
  (refine ⟨?_, ?_⟩; (focus (first | exact hasI_of (by assumption) (by decide) | exact hasR_of (by assumption) (by decide))); rintro _ rfl; try rw [hR.f.hl s hs])
  (refine ⟨?_, ?_⟩; (focus (first | exact hasI_of (by assumption) (by decide) | exact hasR_of (by assumption) (by decide))); rintro _ rfl; try rw [hR.f.hl s hs])
  refine ⟨_, rfl, ?_⟩
  refine ⟨⟨_, _, by assumption, by decide⟩, 0, 0, by omega, by omega, ?_⟩
  refine t_size h2 (hR.l.hn s hs) ?_
  refine ⟨_, rfl, ?_⟩
  refine ⟨⟨_, _, by assumption, by decide⟩, 0, 0, by omega, by omega, ?_⟩
  have e1 : nI (G.ct s) - 1 = nI (G.ct s - 1) := by
    have := nI_pred (G.ct s - 1)
    rw [Nat.sub_add_cancel h0] at this
    exact this
  rw [e1]
  refine t_get h2 (hR.l.hn s hs) (hR.l.hd s hs) (hR.l.hrow s hs) (by omega) ?_
  exact ⟨_, rfl, hR.isE (hw.ev_lt s _ hs (by omega)), k1 h0⟩
theorem t_isIn (hw : WF G) (hR : RC z G A g) {e a : Nat} (he : e < G.ne) (ha : hT g a = some (100, 16)) (hv : ∀ s, s < 16 → aI g a s = nI (V s)) (hb : V (G.sl e) ≤ 2000000) {post : Int32 → Sg → Prop} (k1 : kn G V e → post 1 g) (k0 : ¬ kn G V e → post 0 g) : w_E_isIn z mi mc ms post g (A.ea e) (some a) := by
  have h1 := hR.k.ga _ (hw.sl_lt e he)
  have hs := hw.sl_lt e he
  have hn := hw.na_le
  have hnu := nu2M hw he
  unfold w_E_isIn
  refine ⟨hR.hI he (by decide), ?_⟩
  rintro _ rfl
  refine ⟨hR.hR he (by decide), ?_⟩
  rintro _ rfl
  rw [hR.e.ag e he, hR.e.nu e he]
  refine ⟨_, rfl, ?_⟩
  (refine ⟨?_, ?_⟩; (focus (first | exact hasI_of (by assumption) (by decide) | exact hasR_of (by assumption) (by decide))); rintro _ rfl; try rw [hR.f.sl _ hs])
  refine ⟨_, rfl, ?_⟩
  (refine ⟨G.sl e, ⟨_, ha, rfl, by omega, by decide⟩, ?_⟩; rintro _ rfl; try rw [hv _ (by omega)])
  rw [lI hb hnu]
  exact ⟨fun h => k0 (by unfold kn; omega), fun h => k1 (by unfold kn; omega)⟩
theorem t_isAfter (hw : WF G) (hR : RC z G A g) {e f : Nat} (he : e < G.ne) (hf : f < G.ne) {post : Int32 → Sg → Prop} (k1 : kn G (G.pa e) f → post 1 g) (k0 : ¬ kn G (G.pa e) f → post 0 g) : w_E_isAfter z mi mc ms post g (A.ea e) (some (A.ea f)) := by
  have hs := hw.sl_lt e he
  have hsf := hw.sl_lt f hf
  have hn := hw.na_le
  have hbf := hR.k.bf e he
  unfold w_E_isAfter
  refine ⟨_, rfl, ?_⟩
  refine ⟨hR.hR hf (by decide), ?_⟩
  rintro _ rfl
  refine ⟨hR.hR he (by decide), ?_⟩
  rintro _ rfl
  rw [hR.e.ag e he, hR.e.ag f hf]
  refine ⟨fun h => ?_, fun h => ?_⟩
  · have hne : G.sl f ≠ G.sl e := fun h' => h (by rw [h'])
    refine ⟨hR.hR he (by decide), ?_⟩
    rintro _ rfl
    rw [hR.e.bf e he]
    refine ⟨hR.isE hf, 0, 0, by omega, by omega, ?_⟩
    have hq : A.bv e (G.sl f) = G.pa e (G.sl f) := hR.e.pa e _ he (by omega) hne
    refine t_isIn (V := A.bv e) hw hR hf hbf (fun s h => hR.e.bv e s he h) (bv2M hw hR he (by omega)) (fun h => ⟨Or.inr rfl, k1 (by unfold kn at h ⊢; omega)⟩) (fun h => ⟨Or.inl rfl, k0 (by unfold kn at h ⊢; omega)⟩)
  · have hse : G.sl f = G.sl e := hR.k.ga_inj _ _ hsf hs (Option.some.inj h)
    refine ⟨hR.hI hf (by decide), ?_⟩
    rintro _ rfl
    refine ⟨hR.hI he (by decide), ?_⟩
    rintro _ rfl
    rw [hR.e.nu e he, hR.e.nu f hf, lI (nu2M hw he) (nu2M hw hf)]
    have ho := hw.pa_own e he
    exact ⟨fun h => k0 (by unfold kn; rw [hse, ho]; omega), fun h => k1 (by unfold kn; rw [hse, ho]; omega)⟩
end CR
