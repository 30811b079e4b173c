section MAL
variable {z mi mc ms : Nat} {G : AG} {M : MA} {g : Sg} {V : Nat → Nat}
def vA (G : AG) (s : Nat) : Nat := if s < G.na then G.ct s else 0
theorem vA_b (hw : WF G) (s : Nat) : vA G s ≤ 8192 := by
  unfold vA
  split
  · have := hw.ct_le s (by assumption)
    have := hw.ne_le
    omega
  · omega
theorem t_all (hw : WF G) (hR : RM G M g) {post : Sg → Prop} (k : ∀ h : Nat → Int32, (∀ s, s < 16 → h s = nI (vA G s)) → post (cI g (M.f 55) h)) : w_G_all z mi mc ms post g M.gr (some (M.f 55)) := by
  have hna := hw.na_le
  have key : ∀ d i, i + d = 16 → ∀ (h : Nat → Int32), (∀ s, s < i → h s = nI (vA G s)) → ∀ kc ks, w_G_all_2 z mi mc ms post (d + 1) kc ks (cI g (M.f 55) h) M.gr (some (M.f 55)) (nI i) := by
    intro d
    induction d with
    | zero =>
      intro i hi h hh kc ks
      unfold w_G_all_2
      refine ⟨fun _ => k h (fun s hs => hh s (by omega)), fun h => absurd ((lI (a := 16) (by omega) (by omega)).mpr (by omega)) h⟩
    | succ d ih =>
      intro i hi h hh kc ks
      have hR' := hR.cA hw (i := 55) (by decide) h
      have hgr := hR'.k.gr
      have h55 := hR'.kf 55 (by decide) rfl
      have hb := vA_b hw i
      have nxt : ∀ v, v = nI (vA G i) → w_G_all_2 z mi mc ms post (d + 1) kc ks (cI g (M.f 55) (fun j => if j = i then v else h j)) M.gr (some (M.f 55)) (nI (i + 1)) := fun v hv => by
        refine ih (i + 1) (by omega) _ (fun s hs => ?_) kc ks
        by_cases hsi : s = i
        · simp only [hsi, if_true]; exact hv
        · simp only [hsi, if_false]; exact hh s (by omega)
      unfold w_G_all_2
      refine ⟨fun h => absurd ((lI (a := 16) (by omega) (by omega)).mp h) (by omega), fun _ => ?_⟩
      (refine ⟨?_, ?_⟩; (focus (first | exact hasI_of (by assumption) (by decide) | exact hasR_of (by assumption) (by decide))); rintro _ rfl; try rw [hR'.c.na])
      rw [lI (by omega) (by omega)]
      refine ⟨fun hle => ?_, fun hle => ?_⟩
      · refine ⟨_, rfl, ?_⟩
        refine ⟨i, ⟨_, h55, rfl, by omega, by decide⟩, ?_⟩
        rintro _ rfl
        rw [nI_1, sI_cI, cI_cI, aI_cI]
        refine nxt _ ?_
        have : vA G i = 0 := by simp [vA]; omega
        rw [this]; exact sh2 (n := 0) (by omega)
      · (refine ⟨?_, ?_⟩; (focus (first | exact hasI_of (by assumption) (by decide) | exact hasR_of (by assumption) (by decide))); rintro _ rfl; try rw [hR'.f.f 33 (by decide)])
        refine ⟨_, rfl, ?_⟩
        (refine ⟨i, ⟨_, hR'.kf 33 (by decide) rfl, rfl, by omega, by decide⟩, ?_⟩; rintro _ rfl; try rw [hR'.c.ct i (by omega)])
        refine ⟨_, rfl, ?_⟩
        refine ⟨i, ⟨_, h55, rfl, by omega, by decide⟩, ?_⟩
        rintro _ rfl
        rw [nI_1, sI_cI, cI_cI, aI_cI]
        refine nxt _ ?_
        exact sh2 (n := vA G i) (by omega)
  unfold w_G_all
  have := key 16 0 (by omega) (aI g (M.f 55)) (fun s hs => absurd hs (by omega)) 0 0
  rw [cI_self] at this
  exact ⟨_, this⟩
theorem t_lastIn (hw : WF G) (hR : RM G M g) (hV : VS g (M.f 55) 0 (vA G)) {s : Nat} (hs : s < G.na) {post : Int32 → Sg → Prop} (k0 : G.ct s = 0 → post (-1) g) (k1 : 0 < G.ct s → post (nI (la G s)) g) : w_G_lastIn z mi mc ms post g M.gr (some (M.f 55)) 0 (nI s) := by
  have hna := hw.na_le
  have h1 := hR.k.gr
  have h34 := hR.kf 34 (by decide) rfl
  have hb := hV.b s (by omega)
  have hv : aI g (M.f 55) s = nI (G.ct s) := by
    have := hV.v s (by omega)
    rw [Nat.zero_add] at this
    rw [this]; simp [vA, hs]
  have hc := ct2M hw hs
  have hrl := hR.k.rl s (by omega)
  have hrl2 := hR.c.rl s hs
  have e0 : (0 : Int32) + nI s = nI s := by
    have := nI_add 0 s
    rw [Nat.zero_add] at this
    exact this
  unfold w_G_lastIn
  (refine ⟨?_, ?_⟩; (focus (first | exact hasI_of (by assumption) (by decide) | exact hasR_of (by assumption) (by decide))); rintro _ rfl; try rw [hR.c.na])
  rw [lI (by omega) (by omega)]
  refine ⟨fun h => absurd h (by omega), fun _ => ?_⟩
  refine ⟨_, rfl, ?_⟩
  rw [e0]
  (refine ⟨s, ⟨_, hR.kf 55 (by decide) rfl, rfl, by omega, by decide⟩, ?_⟩; rintro _ rfl; try rw [hv])
  have ez : nI (G.ct s) ≤ 0 ↔ G.ct s ≤ 0 := lI (b := 0) hc (by omega)
  rw [ez]
  refine ⟨fun h => k0 (by omega), fun h => ?_⟩
  (refine ⟨?_, ?_⟩; (focus (first | exact hasI_of (by assumption) (by decide) | exact hasR_of (by assumption) (by decide))); rintro _ rfl; try rw [hR.f.f 34 (by decide)])
  refine ⟨_, rfl, ?_⟩
  (refine ⟨s, ⟨_, h34, rfl, by omega, by decide⟩, ?_⟩; rintro _ rfl; try rw [hR.f.rw s (by omega)])
  (refine ⟨s, ⟨_, hR.kf 55 (by decide) rfl, rfl, by omega, by decide⟩, ?_⟩; rintro _ rfl; try rw [hv])
  refine ⟨_, rfl, ?_⟩
  have e1 : nI (G.ct s) - 1 = nI (G.ct s - 1) := by
    have := nI_pred (G.ct s - 1)
    rw [Nat.sub_add_cancel (by omega)] at this
    exact this
  rw [e1]
  refine ⟨G.ct s - 1, ⟨_, hR.k.rw s (by omega), rfl, by omega, by omega⟩, ?_⟩
  rintro _ rfl
  rw [hR.c.ev s (G.ct s - 1) hs (by omega)]
  exact k1 (by omega)
end MAL
