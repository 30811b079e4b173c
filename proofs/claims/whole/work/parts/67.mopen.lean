section MO
variable {z mi mc ms : Nat} {G : AG} {M : MA} {g : Sg} {L : List Nat} {V : Nat → Nat}
theorem VS.of (hR : RM G M g) {h : Nat → Int32} (hh : ∀ s, s < 16 → h s = nI (V s)) (hb : ∀ s, s < 16 → V s ≤ 8192) : VS (cI g (M.f 55) h) (M.f 55) 0 V := VS.mk ⟨16, hR.kf 55 (by decide) rfl, by omega, by omega⟩ (fun s hs => by rw [aI_cI, Nat.zero_add]; exact hh s hs) hb
theorem t_Mseen (hw : WF G) (hR : RM G M g) (hL : RMi G M L g) (hmc : 1 ≤ mc) (hms : 6 ≤ ms) {post : Int32 → Sg → Prop} (kx : tg G L → ∀ g2, RM G M g2 → RMi G M L g2 → fM M g g2 → fI g2 56 M.m = 1 → post 0 g2) (kr : ¬ tg G L → ∀ g2, RM G M g2 → RMi G M L g2 → fM M g g2 → fI g2 56 M.m = 0 → post (nI (seL G (vL G L)).length) g2) : w_M_seen z mi mc ms post g M.m := by
  have hm := hR.k.m
  unfold w_M_seen
  refine ⟨hasI_of hm (by decide), ?_⟩
  rintro _ rfl
  have hR1 := hR.w56 M.m 0
  have hL1 := hL.w56 M.m 0
  have hm1 := hR1.k.m
  refine ⟨⟨_, _, hm1, by decide⟩, 1, 6, by omega, by omega, ?_⟩
  unfold w_M_seen0
  (refine ⟨?_, ?_⟩; (focus (first | exact hasI_of (by assumption) (by decide) | exact hasR_of (by assumption) (by decide))); rintro _ rfl; try rw [hL1.n])
  refine ⟨⟨_, _, hm1, by decide⟩, 1, 6, by omega, by omega, ?_⟩
  have e56 : ∀ h, fI (cI (wI g 56 M.m 0) (M.f 55) h) 56 M.m = 0 := fun h => by
    show fI (wI g 56 M.m 0) 56 M.m = 0
    rw [fI_wI]; simp
  refine t_gather hw hR1 hL1.j (by omega) (by omega) (fun ht h => ⟨rfl, hasI_of (k := 6) (n := 6) hm1 (by decide), ?_⟩) (fun ht h hh => ?_)
  · rintro _ rfl
    have hR2 := (hR1.cA hw (i := 55) (by decide) h)
    refine kx ht _ (hR2.w56 _ _) ((RMi.cS hR1.k hL1 h).w56 _ _) (((fM.w56 M g M.m 0).trans (fM.cA (by decide) h)).trans (fM.w56 _ _ _ _)) (by rw [fI_wI]; simp)
  · have hR2 := (hR1.cA hw (i := 55) (by decide) h)
    have hm2 := hR2.k.m
    have hg2 := hR2.k.gr
    (refine ⟨?_, ?_⟩; (focus (first | exact hasI_of (by assumption) (by decide) | exact hasR_of (by assumption) (by decide))); rintro _ rfl; try rw [hR2.f.g])
    (refine ⟨?_, ?_⟩; (focus (first | exact hasI_of (by assumption) (by decide) | exact hasR_of (by assumption) (by decide))); rintro _ rfl; try rw [hR2.f.s])
    refine ⟨_, rfl, ?_⟩
    refine ⟨⟨_, _, by assumption, by decide⟩, 0, 0, by omega, by omega, ?_⟩
    refine t_seenMany hw hR2 (VS.of hR1 hh (fun s _ => vL_b hw hL.lt s)) ?_
    exact kr ht _ hR2 (RMi.cS hR1.k hL1 h) ((fM.w56 M g M.m 0).trans (fM.cA (by decide) h)) (e56 h)
theorem RMi.nil (hR : RM G M g) (h : fI g 54 M.m = 0) : RMi G M [] g := RMi.mk h (by decide) (fun _ h => nomatch h) List.nodup_nil (fun i e h => by cases h)
theorem t_open (hw : WF G) (hR : RM G M g) (hL : RMi G M L g) {x : Int32} (hmc : 2 ≤ mc) (hms : 12 ≤ ms) {post : Int32 → Sg → Prop} {px : Nat → Sg → Prop} (kx : ¬ go1 G L x → ∀ g2, RM G M g2 → RMi G M [] g2 → fM M g g2 → fI g2 56 M.m = fI g 56 M.m → px 1 g2) (kr : go1 G L x → ∀ g2, RM G M g2 → RMi G M [] g2 → fM M g g2 → fI g2 56 M.m = fI g 56 M.m → VS g2 (M.f 55) 0 (vL G L) → post (nI (seL G (vL G L)).length) g2) : w_M_open z mi mc ms post px g M.m x := by
  have hm := hR.k.m
  have hgr := hR.k.gr
  have hna := hw.na_le
  have hR1 : RM G M (wI g 54 M.m 0) := hR.w54 M.m 0
  have hJ : RMj G M L (wI g 54 M.m 0) := RMj.mk hL.le hL.lt hL.at
  have hm1 := hR1.k.m
  have n54 : ∀ h, fI (cI (wI g 54 M.m 0) (M.f 55) h) 54 M.m = 0 := fun h => by
    show fI (wI g 54 M.m 0) 54 M.m = 0
    rw [fI_wI]; simp
  have e56 : ∀ h, fI (cI (wI g 54 M.m 0) (M.f 55) h) 56 M.m = fI g 56 M.m := fun h => by
    show fI (wI g 54 M.m 0) 56 M.m = _
    rw [fI_wI_ne _ _ _ (by decide)]
  have fr : ∀ h, fM M g (cI (wI g 54 M.m 0) (M.f 55) h) := fun h => (fM.wIs (by decide)).trans (fM.cA (by decide) h)
  have bad : ¬ go1 G L x → ∀ h, px 1 (cI (wI g 54 M.m 0) (M.f 55) h) := fun hn h => by
    have hR2 := (hR1.cA hw (i := 55) (by decide) h)
    exact kx hn _ hR2 (RMi.nil hR2 (n54 h)) (fr h) (e56 h)
  have many : ∀ h : Nat → Int32, (∀ s, s < 16 → h s = nI (vL G L s)) → go1 G L x → ∀ mc ms, w_G_seenMany z mi mc ms (fun x30 g29 => post x30 g29) (cI (wI g 54 M.m 0) (M.f 55) h) M.gr (some (M.f 55)) 0 := fun h hh hg mc ms => by
    have hR2 := (hR1.cA hw (i := 55) (by decide) h)
    exact t_seenMany hw hR2 (VS.of hR1 hh (fun s _ => vL_b hw hL.lt s)) (kr hg _ hR2 (RMi.nil hR2 (n54 h)) (fr h) (e56 h) (VS.of hR1 hh (fun s _ => vL_b hw hL.lt s)))
  unfold w_M_open
  (refine ⟨?_, ?_⟩; (focus (first | exact hasI_of (by assumption) (by decide) | exact hasR_of (by assumption) (by decide))); rintro _ rfl; try rw [hL.n])
  (refine ⟨?_, ?_⟩; (focus (first | exact hasI_of (by assumption) (by decide) | exact hasR_of (by assumption) (by decide))); rintro _ rfl; try rw [hR.f.g])
  refine ⟨_, rfl, ?_⟩
  refine ⟨⟨_, _, by assumption, by decide⟩, 0, 0, by omega, by omega, ?_⟩
  refine t_slotOf hw hR (fun s hs hx => ?_) (fun hno => ?_)
  · refine ⟨hasI_of hm (by decide), ?_⟩
    rintro _ rfl
    refine ⟨⟨_, _, hm1, by decide⟩, 1, 6, by omega, by omega, ?_⟩
    refine t_gather hw hR1 hJ (by omega) (by omega) (fun ht h => bad (fun hg => hg.1 ht) h) (fun ht h hh => ⟨fun h' => absurd h' (pI0 (by omega)), fun _ => ?_⟩)
    have hR2 := (hR1.cA hw (i := 55) (by decide) h)
    have hm2 := hR2.k.m
    have hg2 := hR2.k.gr
    have hc := ct2M hw hs
    have hb := vL_b hw hL.lt s
    (refine ⟨?_, ?_⟩; (focus (first | exact hasI_of (by assumption) (by decide) | exact hasR_of (by assumption) (by decide))); rintro _ rfl; try rw [hR2.f.s])
    refine ⟨_, rfl, ?_⟩
    refine ⟨s, ⟨_, hR2.kf 55 (by decide) rfl, rfl, by omega, by decide⟩, ?_⟩
    rintro _ rfl
    rw [aI_cI, hh s (by omega)]
    (refine ⟨?_, ?_⟩; (focus (first | exact hasI_of (by assumption) (by decide) | exact hasR_of (by assumption) (by decide))); rintro _ rfl; try rw [hR2.f.g])
    refine ⟨_, rfl, ?_⟩
    (refine ⟨?_, ?_⟩; (focus (first | exact hasI_of (by assumption) (by decide) | exact hasR_of (by assumption) (by decide))); rintro _ rfl; try rw [hR2.f.f 33 (by decide)])
    refine ⟨_, rfl, ?_⟩
    (refine ⟨s, ⟨_, hR2.kf 33 (by decide) rfl, rfl, by omega, by decide⟩, ?_⟩; rintro _ rfl; try rw [hR2.c.ct s (by omega), if_pos hs])
    rw [lI hc (by omega)]
    have hle := vL_ct hw hL.lt hs
    refine ⟨fun h1 => ?_, fun h1 => ⟨by omega, by omega, bad (fun hg => ?_) h⟩⟩
    · have hgo : go1 G L x := ⟨ht, fun s' hs' hx' => by
        have q1 := hw.nm_le s hs
        have q2 := hw.nm_le s' hs'
        have : s' = s := hw.nm_inj _ _ hs' hs ((eI (by omega) (by omega)).mp (hx'.trans hx.symm))
        rw [this]; omega⟩
      (refine ⟨?_, ?_⟩; (focus (first | exact hasI_of (by assumption) (by decide) | exact hasR_of (by assumption) (by decide))); rintro _ rfl; try rw [hR2.f.g])
      (refine ⟨?_, ?_⟩; (focus (first | exact hasI_of (by assumption) (by decide) | exact hasR_of (by assumption) (by decide))); rintro _ rfl; try rw [hR2.f.s])
      refine ⟨_, rfl, ?_⟩
      refine ⟨⟨_, _, by assumption, by decide⟩, 0, 0, by omega, by omega, ?_⟩
      exact many h hh hgo _ _
    · have := hg.2 s hs hx
      omega
  · refine ⟨hasI_of hm (by decide), ?_⟩
    rintro _ rfl
    refine ⟨⟨_, _, hm1, by decide⟩, 1, 6, by omega, by omega, ?_⟩
    refine t_gather hw hR1 hJ (by omega) (by omega) (fun ht h => bad (fun hg => hg.1 ht) h) (fun ht h hh => ⟨fun _ => ?_, fun h' => absurd (by decide) h'⟩)
    have hR2 := (hR1.cA hw (i := 55) (by decide) h)
    have hm2 := hR2.k.m
    have hg2 := hR2.k.gr
    have hgo : go1 G L x := ⟨ht, fun s' hs' hx' => absurd hx' (hno s' hs')⟩
    (refine ⟨?_, ?_⟩; (focus (first | exact hasI_of (by assumption) (by decide) | exact hasR_of (by assumption) (by decide))); rintro _ rfl; try rw [hR2.f.g])
    (refine ⟨?_, ?_⟩; (focus (first | exact hasI_of (by assumption) (by decide) | exact hasR_of (by assumption) (by decide))); rintro _ rfl; try rw [hR2.f.s])
    refine ⟨_, rfl, ?_⟩
    refine ⟨⟨_, _, by assumption, by decide⟩, 0, 0, by omega, by omega, ?_⟩
    exact many h hh hgo _ _
theorem t_room (hw : WF G) (hR : RM G M g) {x : Int32} {n : Nat} (hn : n ≤ 100) (hmc : 1 ≤ mc) (hms : 6 ≤ ms) {post : Sg → Prop} {px : Nat → Sg → Prop} (k1 : rm1 G x n → post g) (k0 : ¬ rm1 G x n → px 2 g) : w_M_room z mi mc ms post px g M.m x (nI n) := by
  have hm := hR.k.m
  have hgr := hR.k.gr
  have hne := hw.ne_le
  have hna := hw.na_le
  unfold w_M_room
  (refine ⟨?_, ?_⟩; (focus (first | exact hasI_of (by assumption) (by decide) | exact hasR_of (by assumption) (by decide))); rintro _ rfl; try rw [hR.f.g])
  refine ⟨_, rfl, ?_⟩
  (refine ⟨?_, ?_⟩; (focus (first | exact hasI_of (by assumption) (by decide) | exact hasR_of (by assumption) (by decide))); rintro _ rfl; try rw [hR.c.ne])
  rw [nI_add]
  have e1 : (8192 : Int32) < nI (G.ne + n) ↔ 8192 < G.ne + n := tI (a := 8192) (by omega) (by omega)
  rw [e1]
  refine ⟨fun h => ⟨by omega, by omega, k0 (fun h' => by have := h'.1; omega)⟩, fun h => ?_⟩
  (refine ⟨?_, ?_⟩; (focus (first | exact hasI_of (by assumption) (by decide) | exact hasR_of (by assumption) (by decide))); rintro _ rfl; try rw [hR.f.g])
  refine ⟨_, rfl, ?_⟩
  refine ⟨⟨_, _, by assumption, by decide⟩, 0, 0, by omega, by omega, ?_⟩
  refine t_slotOf hw hR (fun s hs hx => ⟨fun _ => k1 ⟨by omega, Or.inr ⟨s, hs, hx⟩⟩, fun h => absurd (nI_pos' (by omega)) h⟩) (fun hno => ⟨fun h => absurd h (by decide), fun _ => ?_⟩)
  (refine ⟨?_, ?_⟩; (focus (first | exact hasI_of (by assumption) (by decide) | exact hasR_of (by assumption) (by decide))); rintro _ rfl; try rw [hR.f.g])
  refine ⟨_, rfl, ?_⟩
  (refine ⟨?_, ?_⟩; (focus (first | exact hasI_of (by assumption) (by decide) | exact hasR_of (by assumption) (by decide))); rintro _ rfl; try rw [hR.c.na])
  have e2 : nI G.na = (16 : Int32) ↔ G.na = 16 := eI (b := 16) (by omega) (by omega)
  rw [e2]
  refine ⟨fun h' => k1 ⟨by omega, Or.inl (by omega)⟩, fun h' => ⟨by omega, by omega, k0 (fun h2 => ?_)⟩⟩
  rcases h2.2 with h3 | ⟨s, hs, hx⟩
  · omega
  · exact hno s hs hx
end MO
