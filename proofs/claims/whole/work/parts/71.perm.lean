section PM
variable {z mi mc ms : Nat} {G : AG} {M : MA} {g : Sg} {L L2 : List Nat} {V : Nat → Nat}
theorem vL_mono (h : ∀ e ∈ L, e ∈ L2) (s : Nat) : vL G L s ≤ vL G L2 s := by
  by_cases hh : vL G L s ≤ vL G L2 s
  · exact hh
  · exfalso
    rcases vL_lt (G := G) (s := s) (x := vL G L2 s) L 0 (by unfold vL at hh ⊢; omega) with q | ⟨e, he, q⟩
    · omega
    · have := (vL_ge (G := G) (s := s) L2 0).2 e (h e he)
      unfold vL at q
      omega
theorem vL_perm (h : ∀ e, e ∈ L ↔ e ∈ L2) : vL G L = vL G L2 := funext (fun s => Nat.le_antisymm (vL_mono (fun e => (h e).mp) s) (vL_mono (fun e => (h e).mpr) s))
theorem tg_perm (h : ∀ e, e ∈ L ↔ e ∈ L2) : tg G L ↔ tg G L2 := by
  constructor
  · rintro ⟨e, he, f, hf, hk⟩; exact ⟨e, (h e).mp he, f, (h f).mp hf, hk⟩
  · rintro ⟨e, he, f, hf, hk⟩; exact ⟨e, (h e).mpr he, f, (h f).mpr hf, hk⟩
theorem go1_perm (h : ∀ e, e ∈ L ↔ e ∈ L2) {x : Int32} : go1 G L x ↔ go1 G L2 x := by
  unfold go1
  rw [tg_perm h, vL_perm h]
theorem oI_perm (h : ∀ e, e ∈ L ↔ e ∈ L2) {x y c w : Int32} {r : Nat} {G2 : AG} (ho : oI G L x y c w r G2) : oI G L2 x y c w r G2 := by
  have hg : go1 G L x ↔ go1 G L2 x := go1_perm h
  unfold oI oE at ho ⊢
  rw [vL_perm h] at ho
  rw [hg] at ho
  exact ho
theorem oD_perm (h : ∀ e, e ∈ L ↔ e ∈ L2) {x y w : Int32} {r : Nat} {G2 : AG} (ho : oD G L x y w r G2) : oD G L2 x y w r G2 := by
  have hg : go1 G L x ↔ go1 G L2 x := go1_perm h
  unfold oD oE at ho ⊢
  rw [vL_perm h] at ho
  rw [hg] at ho
  exact ho
theorem t_isLess (hw : WF G) (hR : RM G M g) {e f : Nat} (he : e < G.ne) (hf : f < G.ne) {post : Int32 → Sg → Prop} (k1 : ls G e f → post 1 g) (k0 : ¬ ls G e f → post 0 g) : w_G_isLess z mi mc ms post g M.gr (nI e) (nI f) := by
  have h1 := hR.k.gr
  have h32 := hR.kf 32 (by decide) rfl
  have h35 := hR.kf 35 (by decide) rfl
  have h36 := hR.kf 36 (by decide) rfl
  have hne := hw.ne_le
  have hna := hw.na_le
  have hse := hw.sl_lt e he
  have hsf := hw.sl_lt f hf
  have q1 := hw.nm_le _ hse
  have q2 := hw.nm_le _ hsf
  unfold w_G_isLess
  (refine ⟨?_, ?_⟩; (focus (first | exact hasI_of (by assumption) (by decide) | exact hasR_of (by assumption) (by decide))); rintro _ rfl; try rw [hR.f.f 32 (by decide)])
  (refine ⟨?_, ?_⟩; (focus (first | exact hasI_of (by assumption) (by decide) | exact hasR_of (by assumption) (by decide))); rintro _ rfl; try rw [hR.f.f 35 (by decide)])
  refine ⟨_, rfl, ?_⟩
  (refine ⟨e, ⟨_, h35, rfl, by omega, by decide⟩, ?_⟩; rintro _ rfl; try rw [hR.c.sl e he])
  refine ⟨_, rfl, ?_⟩
  (refine ⟨G.sl e, ⟨_, h32, rfl, by omega, by decide⟩, ?_⟩; rintro _ rfl; try rw [hR.c.nm _ hse])
  (refine ⟨?_, ?_⟩; (focus (first | exact hasI_of (by assumption) (by decide) | exact hasR_of (by assumption) (by decide))); rintro _ rfl; try rw [hR.f.f 32 (by decide)])
  (refine ⟨?_, ?_⟩; (focus (first | exact hasI_of (by assumption) (by decide) | exact hasR_of (by assumption) (by decide))); rintro _ rfl; try rw [hR.f.f 35 (by decide)])
  refine ⟨_, rfl, ?_⟩
  (refine ⟨f, ⟨_, h35, rfl, by omega, by decide⟩, ?_⟩; rintro _ rfl; try rw [hR.c.sl f hf])
  refine ⟨_, rfl, ?_⟩
  (refine ⟨G.sl f, ⟨_, h32, rfl, by omega, by decide⟩, ?_⟩; rintro _ rfl; try rw [hR.c.nm _ hsf])
  rw [eI (by omega) (by omega)]
  refine ⟨fun heq => ?_, fun hne' => ?_⟩
  · have hs : G.sl e = G.sl f := hw.nm_inj _ _ hse hsf heq
    (refine ⟨?_, ?_⟩; (focus (first | exact hasI_of (by assumption) (by decide) | exact hasR_of (by assumption) (by decide))); rintro _ rfl; try rw [hR.f.f 36 (by decide)])
    refine ⟨_, rfl, ?_⟩
    (refine ⟨e, ⟨_, h36, rfl, by omega, by decide⟩, ?_⟩; rintro _ rfl; try rw [hR.c.nu e he])
    (refine ⟨?_, ?_⟩; (focus (first | exact hasI_of (by assumption) (by decide) | exact hasR_of (by assumption) (by decide))); rintro _ rfl; try rw [hR.f.f 36 (by decide)])
    refine ⟨_, rfl, ?_⟩
    (refine ⟨f, ⟨_, h36, rfl, by omega, by decide⟩, ?_⟩; rintro _ rfl; try rw [hR.c.nu f hf])
    rw [lI (nu2M hw hf) (nu2M hw he)]
    refine ⟨fun h => k0 (fun h' => ?_), fun h => k1 (Or.inr ⟨hs, by omega⟩)⟩
    rcases h' with h' | ⟨-, h'⟩
    · omega
    · omega
  · (refine ⟨?_, ?_⟩; (focus (first | exact hasI_of (by assumption) (by decide) | exact hasR_of (by assumption) (by decide))); rintro _ rfl; try rw [hR.f.f 32 (by decide)])
    (refine ⟨?_, ?_⟩; (focus (first | exact hasI_of (by assumption) (by decide) | exact hasR_of (by assumption) (by decide))); rintro _ rfl; try rw [hR.f.f 35 (by decide)])
    refine ⟨_, rfl, ?_⟩
    (refine ⟨e, ⟨_, h35, rfl, by omega, by decide⟩, ?_⟩; rintro _ rfl; try rw [hR.c.sl e he])
    refine ⟨_, rfl, ?_⟩
    (refine ⟨G.sl e, ⟨_, h32, rfl, by omega, by decide⟩, ?_⟩; rintro _ rfl; try rw [hR.c.nm _ hse])
    (refine ⟨?_, ?_⟩; (focus (first | exact hasI_of (by assumption) (by decide) | exact hasR_of (by assumption) (by decide))); rintro _ rfl; try rw [hR.f.f 32 (by decide)])
    (refine ⟨?_, ?_⟩; (focus (first | exact hasI_of (by assumption) (by decide) | exact hasR_of (by assumption) (by decide))); rintro _ rfl; try rw [hR.f.f 35 (by decide)])
    refine ⟨_, rfl, ?_⟩
    (refine ⟨f, ⟨_, h35, rfl, by omega, by decide⟩, ?_⟩; rintro _ rfl; try rw [hR.c.sl f hf])
    refine ⟨_, rfl, ?_⟩
    (refine ⟨G.sl f, ⟨_, h32, rfl, by omega, by decide⟩, ?_⟩; rintro _ rfl; try rw [hR.c.nm _ hsf])
    rw [lI (by omega) (by omega)]
    refine ⟨fun h => k0 (fun h' => ?_), fun h => k1 (Or.inl (by omega))⟩
    rcases h' with h' | ⟨h', -⟩
    · omega
    · exact hne' (by rw [h'])
end PM
