section MO
variable {z mi mc ms : Nat} {G : AG} {M : MA} {g : Sg} {L : List Nat} {V : Nat → Nat}
theorem VS.of (hR : RM G M g) {h : Nat → Int32} (hh : ∀ s, s < 16 → h s = nI (V s)) (hb : ∀ s, s < 16 → V s ≤ 8192) : VS (cI g (M.f 55) h) (M.f 55) 0 V := VS.mk ⟨16, hR.kf 55 (by decide) rfl, by omega, by omega⟩ (fun s hs => by rw [aI_cI, Nat.zero_add]; exact hh s hs) hb
theorem t_Mseen (hw : WF G) (hR : RM G M g) (hL : RMi G M L g) (hmc : 1 ≤ mc) (hms : 6 ≤ ms) {post : Int32 → Sg → Prop} (kx : tg G L → ∀ g2, RM G M g2 → RMi G M L g2 → fM M g g2 → fI g2 56 M.m = 1 → post 0 g2) (kr : ¬ tg G L → ∀ g2, RM G M g2 → RMi G M L g2 → fM M g g2 → fI g2 56 M.m = 0 → post (nI (seL G (vL G L)).length) g2) : w_M_seen z mi mc ms post g M.m := by
  have hm := hR.k.m
  unfold w_M_seen
  refine ⟨hasI_of hm (by decide), ?_⟩
  rintro _ rfl
  have hR1 := hR.w56 M.m 0
  have hL1 := hL.w56 M.m 0
  have hm1 := hR1.k.m
  refine ⟨⟨_, _, hm1, by decide⟩, 1, 6, by omega, by omega, ?_⟩
  unfold w_M_seen0
  (refine ⟨?_, ?_⟩; (focus (first | exact hasI_of (by assumption) (by decide) | exact hasR_of (by assumption) (by decide))); rintro _ rfl; try rw [hL1.n])
  refine ⟨⟨_, _, hm1, by decide⟩, 1, 6, by omega, by omega, ?_⟩
  have e56 : ∀ h, fI (cI (wI g 56 M.m 0) (M.f 55) h) 56 M.m = 0 := fun h => by
    show fI (wI g 56 M.m 0) 56 M.m = 0
    rw [fI_wI]; simp
  refine t_gather hw hR1 hL1 (by omega) (by omega) (fun ht h => ⟨rfl, hasI_of (k := 6) (n := 6) hm1 (by decide), ?_⟩) (fun ht h hh => ?_)
  · rintro _ rfl
    have hR2 := (hR1.cA hw (i := 55) (by decide) h)
    refine kx ht _ (hR2.w56 _ _) ((RMi.cS hR1.k hL1 h).w56 _ _) (((fM.w56 M g M.m 0).trans (fM.cA (by decide) h)).trans (fM.w56 _ _ _ _)) (by rw [fI_wI]; simp)
  · have hR2 := (hR1.cA hw (i := 55) (by decide) h)
    have hm2 := hR2.k.m
    have hg2 := hR2.k.gr
    (refine ⟨?_, ?_⟩; (focus (first | exact hasI_of (by assumption) (by decide) | exact hasR_of (by assumption) (by decide))); rintro _ rfl; try rw [hR2.f.g])
    (refine ⟨?_, ?_⟩; (focus (first | exact hasI_of (by assumption) (by decide) | exact hasR_of (by assumption) (by decide))); rintro _ rfl; try rw [hR2.f.s])
    refine ⟨_, rfl, ?_⟩
    refine ⟨⟨_, _, by assumption, by decide⟩, 0, 0, by omega, by omega, ?_⟩
    refine t_seenMany hw hR2 (VS.of hR1 hh (fun s _ => vL_b hw hL.lt s)) ?_
    exact kr ht _ hR2 (RMi.cS hR1.k hL1 h) ((fM.w56 M g M.m 0).trans (fM.cA (by decide) h)) (e56 h)
theorem RMi.nil (hR : RM G M g) (h : fI g 54 M.m = 0) : RMi G M [] g := RMi.mk h (by decide) (fun _ h => nomatch h) List.nodup_nil (fun i e h => by cases h)
end MO
