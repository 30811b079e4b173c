section MHD
variable {z mi mc ms : Nat} {G : AG} {M : MA} {g : Sg}
theorem t_Mheads (hw : WF G) (hR : RM G M g) {post : Int32 → Sg → Prop} (k : ∀ (K : List Nat) (g2 : Sg), K.length ≤ 16 → K.Nodup → (∀ q, q ∈ K ↔ q ∈ hdL G G.na) → K.length = (hdL G G.na).length → RM G M g2 → RMi G M K g2 → fM M g g2 → fI g2 56 M.m = 0 → post (nI K.length) g2) : w_M_heads z mi mc ms post g M.m := by
  have hm := hR.k.m
  unfold w_M_heads
  refine ⟨hasI_of hm (by decide), ?_⟩
  rintro _ rfl
  have hR1 := hR.w56 M.m 0
  have hm1 := hR1.k.m
  have hg1 := hR1.k.gr
  refine ⟨⟨_, _, hm1, by decide⟩, 0, 0, by omega, by omega, ?_⟩
  unfold w_M_heads0
  (refine ⟨?_, ?_⟩; (focus (first | exact hasI_of (by assumption) (by decide) | exact hasR_of (by assumption) (by decide))); rintro _ rfl; try rw [hR1.f.g])
  (refine ⟨?_, ?_⟩; (focus (first | exact hasI_of (by assumption) (by decide) | exact hasR_of (by assumption) (by decide))); rintro _ rfl; try rw [hR1.f.s])
  refine ⟨_, rfl, ?_⟩
  refine ⟨⟨_, _, by assumption, by decide⟩, 0, 0, by omega, by omega, ?_⟩
  refine t_all hw hR1 (fun h hh => ?_)
  have hR2 := hR1.cA hw (i := 55) (by decide) h
  have hm2 := hR2.k.m
  have hg2 := hR2.k.gr
  have hV : VS (cI (wI g 56 M.m 0) (M.f 55) h) (M.f 55) 0 (vA G) := VS.of hR1 hh (fun s _ => vA_b hw s)
  (refine ⟨?_, ?_⟩; (focus (first | exact hasI_of (by assumption) (by decide) | exact hasR_of (by assumption) (by decide))); rintro _ rfl; try rw [hR2.f.g])
  (refine ⟨?_, ?_⟩; (focus (first | exact hasI_of (by assumption) (by decide) | exact hasR_of (by assumption) (by decide))); rintro _ rfl; try rw [hR2.f.s])
  (refine ⟨?_, ?_⟩; (focus (first | exact hasI_of (by assumption) (by decide) | exact hasR_of (by assumption) (by decide))); rintro _ rfl; try rw [hR2.f.l])
  refine ⟨_, rfl, ?_⟩
  refine ⟨⟨_, _, by assumption, by decide⟩, 0, 0, by omega, by omega, ?_⟩
  refine t_tops hw hR2 hV (fun K h' hl hnd hmem hlen hh' => ?_)
  have hR3 := (hR2.cA hw (i := 52) (by decide) h')
  refine ⟨hasI_of hR3.k.m (by decide), ?_⟩
  rintro _ rfl
  have hR4 := hR3.w54 M.m (nI K.length)
  refine ⟨hasI_of hR4.k.m (by decide), ?_⟩
  rintro _ rfl
  have e54 : fI (wI (cI (cI (wI g 56 M.m 0) (M.f 55) h) (M.f 52) h') 54 M.m (nI K.length)) 54 M.m = nI K.length := by rw [fI_wI]; simp
  rw [e54]
  refine k K _ hl hnd hmem hlen hR4 (RMi.mk e54 hl (fun e he => ?_) hnd (fun i e hi => ?_)) ((((fM.w56 M g M.m 0).trans (fM.cA (by decide) h)).trans (fM.cA (by decide) h')).trans (fM.wIs (by decide))) ?_
  · obtain ⟨s, hs, ht, rfl⟩ := ((hdL_mem hw G.na (Nat.le_refl _)).2 e).mp ((hmem e).mp he)
    exact hw.ev_lt s _ hs (by have := ht.1; omega)
  · show aI (cI (cI (wI g 56 M.m 0) (M.f 55) h) (M.f 52) h') (M.f 52) i = _
    rw [aI_cI]; exact hh' i e hi
  · rw [fI_wI_ne _ _ _ (by decide)]
    show fI (wI g 56 M.m 0) 56 M.m = 0
    rw [fI_wI]; simp
end MHD
