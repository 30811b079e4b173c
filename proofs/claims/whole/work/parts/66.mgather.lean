section MG
variable {z mi mc ms : Nat} {G : AG} {M : MA} {g : Sg} {L : List Nat} {V : Nat → Nat}
theorem sh16 {n : Nat} (h : n < 32768) : (nI n).toInt16.toInt32 = nI n := by
  apply Int32.toInt_inj.mp
  rw [Int16.toInt_toInt32, Int32.toInt_toInt16, nI_toInt (by omega)]
  exact Int.bmod_eq_of_le (by omega) (by omega)
theorem sh1 {n : Nat} (h : n < 32768) : vp_nar .short (nI n) = nI n := by rw [vp_nar_short]; exact sh16 h
theorem sh2 {n : Nat} (h : n < 32768) : vp_nar .short ((nI n).toInt16.toInt32) = nI n := by rw [sh16 h, sh1 h]
theorem t_fillS {a : Nat} {post : Sg → Prop} (ha : hT g a = some (101, 16)) (k : ∀ h : Nat → Int32, (∀ s, s < 16 → h s = nI 0) → post (cI g a h)) : w_AR_fillS z mi mc ms post g (some a) 0 := by
  have key : ∀ d i, i + d = 16 → ∀ (h : Nat → Int32), (∀ s, s < i → h s = nI 0) → ∀ kc ks, w_AR_fillS_5 z mi mc ms post (d + 1) kc ks (cI g a h) (some a) 0 (nI i) (nI 16) := by
    intro d
    induction d with
    | zero =>
      intro i hi h hh kc ks
      unfold w_AR_fillS_5
      refine ⟨fun _ => k h (fun s hs => hh s (by omega)), fun h => absurd ((lI (by omega) (by omega)).mpr (by omega)) h⟩
    | succ d ih =>
      intro i hi h hh kc ks
      unfold w_AR_fillS_5
      refine ⟨fun h => absurd ((lI (by omega) (by omega)).mp h) (by omega), fun _ => ?_⟩
      refine ⟨_, rfl, ?_⟩
      refine ⟨i, ⟨_, ha, rfl, by omega, by decide⟩, ?_⟩
      rintro _ rfl
      rw [nI_1, sI_cI, cI_cI, aI_cI]
      refine ih (i + 1) (by omega) _ (fun s hs => ?_) kc ks
      by_cases hsi : s = i
      · simp only [hsi, if_true]; exact sh1 (n := 0) (by omega)
      · simp only [hsi, if_false]; exact hh s (by omega)
  unfold w_AR_fillS
  refine ⟨_, rfl, ?_⟩
  refine ⟨16, Or.inl ⟨_, ha, by decide, by decide⟩, ?_⟩
  rintro _ rfl
  have := key 16 0 (by omega) (aI g a) (fun s hs => absurd hs (by omega)) 0 0
  rw [cI_self] at this
  exact ⟨_, this⟩
theorem RMi.cS (hk : RMk M (hT g)) (hL : RMi G M L g) (h : Nat → Int32) : RMi G M L (cI g (M.f 55) h) := RMi.mk hL.n hL.le hL.lt hL.nd (fun i e hi => by
  rw [aI_cI_ne g h (fun e => absurd (hk.inj 52 55 (by decide) (by decide) e) (by decide))]
  exact hL.at i e hi)
def RMj (G : AG) (M : MA) (L : List Nat) (g : Sg) : Prop := (L.length ≤ 16) ∧ (∀ e ∈ L, e < G.ne) ∧ (∀ (i e : Nat), L[i]? = some e → aI g (M.f 52) i = nI e)
theorem RMj.le {G : AG} {M : MA} {L : List Nat} {g : Sg} (h : RMj G M L g) : L.length ≤ 16 := h.1
theorem RMj.lt {G : AG} {M : MA} {L : List Nat} {g : Sg} (h : RMj G M L g) : ∀ e ∈ L, e < G.ne := h.2.1
theorem RMj.at {G : AG} {M : MA} {L : List Nat} {g : Sg} (h : RMj G M L g) : ∀ (i e : Nat), L[i]? = some e → aI g (M.f 52) i = nI e := h.2.2
theorem RMj.mk {G : AG} {M : MA} {L : List Nat} {g : Sg} (h0 : L.length ≤ 16) (h1 : ∀ e ∈ L, e < G.ne) (h2 : ∀ (i e : Nat), L[i]? = some e → aI g (M.f 52) i = nI e) : RMj G M L g := ⟨h0, h1, h2⟩
theorem RMi.j (hL : RMi G M L g) : RMj G M L g := RMj.mk hL.le hL.lt hL.at
theorem RMj.cS (hk : RMk M (hT g)) (hL : RMj G M L g) (h : Nat → Int32) : RMj G M L (cI g (M.f 55) h) := RMj.mk hL.le hL.lt (fun i e hi => by
  rw [aI_cI_ne g h (fun e => absurd (hk.inj 52 55 (by decide) (by decide) e) (by decide))]
  exact hL.at i e hi)
theorem t_g72 (hw : WF G) (hR : RM G M g) {e : Nat} (he : e < G.ne) (hV : ∀ s, s < 16 → V s ≤ 8192) {post : Sg → Prop} {px : Nat → Sg → Prop} {k10 : Nat → Nat → Sg → Nat → Int32 → Int32 → Prop} {v1 v2 : Int32} (h0 : Nat → Int32) (hv : ∀ s, s < 16 → h0 s = nI (V s)) {kc ks : Nat} (k : ∀ h : Nat → Int32, (∀ s, s < 16 → h s = nI (max (V s) (jv G e s))) → k10 kc ks (cI g (M.f 55) h) M.m v1 (v2 + 1)) : w_M_gather_72 z mi mc ms post px k10 17 kc ks (cI g (M.f 55) h0) M.m v1 v2 (nI e) 0 := by
  have h55 := hR.kf 55 (by decide) rfl
  have hne := hw.ne_le
  have hna := hw.na_le
  have hs := hw.sl_lt e he
  have key : ∀ d i, i + d = 16 → ∀ (h : Nat → Int32), (∀ s, s < i → h s = nI (max (V s) (jv G e s))) → (∀ s, i ≤ s → s < 16 → h s = nI (V s)) → w_M_gather_72 z mi mc ms post px k10 (d + 1) kc ks (cI g (M.f 55) h) M.m v1 v2 (nI e) (nI i) := by
    intro d
    induction d with
    | zero =>
      intro i hi h hh hh'
      unfold w_M_gather_72
      refine ⟨fun _ => k h (fun s hs => hh s (by omega)), fun h => absurd ((lI (a := 16) (by omega) (by omega)).mpr (by omega)) h⟩
    | succ d ih =>
      intro i hi h hh hh'
      have hR' := hR.cA hw (i := 55) (by decide) h
      have hm := hR'.k.m
      have hgr := hR'.k.gr
      have h55' := hR'.kf 55 (by decide) rfl
      have fin : ∀ v, v ≤ 8192 → v = jv G e i → w_M_gather_122 z mi mc ms post px (w_M_gather_72 z mi mc ms post px k10 (d + 1)) kc ks (cI g (M.f 55) h) M.m v1 v2 (nI e) (nI i) (nI v) := by
        intro v hv8 hvj
        have hVi := hV i (by omega)
        unfold w_M_gather_122
        (refine ⟨?_, ?_⟩; (focus (first | exact hasI_of (by assumption) (by decide) | exact hasR_of (by assumption) (by decide))); rintro _ rfl; try rw [hR'.f.s])
        refine ⟨_, rfl, ?_⟩
        refine ⟨i, ⟨_, h55', rfl, by omega, by decide⟩, ?_⟩
        rintro _ rfl
        rw [aI_cI, hh' i (Nat.le_refl _) (by omega), lI (by omega) (by omega), nI_1]
        refine ⟨fun hle => ih (i + 1) (by omega) h (fun s hs' => ?_) (fun s h1 h2 => hh' s (by omega) h2), fun hle => ?_⟩
        · by_cases hsi : s = i
          · rw [hsi, hh' i (Nat.le_refl _) (by omega), ← hvj, Nat.max_eq_left hle]
          · exact hh s (by omega)
        · (refine ⟨?_, ?_⟩; (focus (first | exact hasI_of (by assumption) (by decide) | exact hasR_of (by assumption) (by decide))); rintro _ rfl; try rw [hR'.f.s])
          refine ⟨_, rfl, ?_⟩
          refine ⟨i, ⟨_, h55', rfl, by omega, by decide⟩, ?_⟩
          rintro _ rfl
          rw [sh2 (by omega), sI_cI, cI_cI, aI_cI]
          refine ih (i + 1) (by omega) _ (fun s hs' => ?_) (fun s h1 h2 => ?_)
          · by_cases hsi : s = i
            · simp only [hsi, if_true]
              rw [← hvj, Nat.max_eq_right (by omega)]
            · simp only [hsi, if_false]; exact hh s (by omega)
          · have : s ≠ i := by omega
            simp only [this, if_false]
            exact hh' s (by omega) h2
      unfold w_M_gather_72
      refine ⟨fun h => absurd ((lI (a := 16) (by omega) (by omega)).mp h) (by omega), fun _ => ?_⟩
      (refine ⟨?_, ?_⟩; (focus (first | exact hasI_of (by assumption) (by decide) | exact hasR_of (by assumption) (by decide))); rintro _ rfl; try rw [hR'.f.g])
      refine ⟨_, rfl, ?_⟩
      (refine ⟨?_, ?_⟩; (focus (first | exact hasI_of (by assumption) (by decide) | exact hasR_of (by assumption) (by decide))); rintro _ rfl; try rw [hR'.f.f 35 (by decide)])
      refine ⟨_, rfl, ?_⟩
      (refine ⟨e, ⟨_, hR'.kf 35 (by decide) rfl, rfl, by omega, by decide⟩, ?_⟩; rintro _ rfl; try rw [hR'.c.sl e he])
      rw [eI (by omega) (by omega)]
      have hj8 := jv2M hw he i
      refine ⟨fun hne' => ?_, fun heq => ?_⟩
      · (refine ⟨?_, ?_⟩; (focus (first | exact hasI_of (by assumption) (by decide) | exact hasR_of (by assumption) (by decide))); rintro _ rfl; try rw [hR'.f.g])
        refine ⟨_, rfl, ?_⟩
        (refine ⟨?_, ?_⟩; (focus (first | exact hasI_of (by assumption) (by decide) | exact hasR_of (by assumption) (by decide))); rintro _ rfl; try rw [hR'.f.f 37 (by decide)])
        refine ⟨_, rfl, ?_⟩
        rw [mul16]
        (refine ⟨16 * e + i, ⟨_, hR'.kf 37 (by decide) rfl, rfl, by omega, by decide⟩, ?_⟩; rintro _ rfl; try rw [hR'.c.pa e i he (by omega)])
        have ej : jv G e i = G.pa e i := by simp [jv, hne']
        exact fin _ (by omega) ej.symm
      · (refine ⟨?_, ?_⟩; (focus (first | exact hasI_of (by assumption) (by decide) | exact hasR_of (by assumption) (by decide))); rintro _ rfl; try rw [hR'.f.g])
        refine ⟨_, rfl, ?_⟩
        (refine ⟨?_, ?_⟩; (focus (first | exact hasI_of (by assumption) (by decide) | exact hasR_of (by assumption) (by decide))); rintro _ rfl; try rw [hR'.f.f 36 (by decide)])
        refine ⟨_, rfl, ?_⟩
        (refine ⟨e, ⟨_, hR'.kf 36 (by decide) rfl, rfl, by omega, by decide⟩, ?_⟩; rintro _ rfl; try rw [hR'.c.nu e he])
        rw [nI_1]
        have ej : jv G e i = G.nu e + 1 := by simp [jv, heq]
        exact fin _ (by omega) ej.symm
  exact key 16 0 (by omega) h0 (fun s hs => absurd hs (by omega)) (fun s _ hs => hv s hs)
theorem t_gather (hw : WF G) (hR : RM G M g) (hL : RMj G M L g) (hmc : 1 ≤ mc) (hms : 6 ≤ ms) {post : Sg → Prop} {px : Nat → Sg → Prop} (kx : tg G L → ∀ h, px 1 (cI g (M.f 55) h)) (kr : ¬ tg G L → ∀ h : Nat → Int32, (∀ s, s < 16 → h s = nI (vL G L s)) → post (cI g (M.f 55) h)) : w_M_gather z mi mc ms post px g M.m (nI L.length) := by
  have h55 := hR.kf 55 (by decide) rfl
  have hm0 := hR.k.m
  have hle := hL.le
  have hne := hw.ne_le
  have inner : ∀ (h0 : Nat → Int32) (i : Nat) (hi : i < L.length) (k10 : Nat → Nat → Sg → Nat → Int32 → Int32 → Prop), (∀ s, s < 16 → h0 s = nI (vL G (L.take i) s)) → ((∀ f ∈ L, ¬ kn G (G.pa f) L[i]) → ∀ h : Nat → Int32, (∀ s, s < 16 → h s = nI (vL G (L.take (i + 1)) s)) → k10 0 0 (cI g (M.f 55) h) M.m (nI L.length) (nI i + 1)) →
      ∀ d j, j + d = L.length → (∀ q f, q < j → L[q]? = some f → ¬ kn G (G.pa f) L[i]) → w_M_gather_25 z mi mc ms post px k10 (d + 1) 0 0 (cI g (M.f 55) h0) M.m (nI L.length) (nI i) (nI L[i]) (nI j) := by
    intro h0 i hi k10 hh0 hk d
    have hgi : L[i]? = some L[i] := List.getElem?_eq_getElem hi
    have hei := hL.lt _ (List.getElem_mem hi)
    have hR' := hR.cA hw (i := 55) (by decide) h0
    have hL' := RMj.cS hR.k hL h0
    have hm := hR'.k.m
    have hgr := hR'.k.gr
    induction d with
    | zero =>
      intro j hj hno
      unfold w_M_gather_25
      refine ⟨fun _ => ⟨17, ?_⟩, fun h => absurd ((lI (by omega) (by omega)).mpr (by omega)) h⟩
      refine t_g72 hw hR hei (V := vL G (L.take i)) (fun s _ => vL_b hw (fun x hx => hL.lt x (List.mem_of_mem_take hx)) s) h0 hh0 (fun h hh => ?_)
      refine hk (fun f hf => ?_) h (fun s hs => ?_)
      · obtain ⟨q, hq⟩ := List.getElem?_of_mem hf
        have := (List.getElem?_eq_some_iff.mp hq).1
        exact hno q f (by omega) hq
      · rw [hh s hs, List.take_add_one, hgi]
        unfold vL
        rw [List.foldl_append]
        rfl
    | succ d ih =>
      intro j hj hno
      have hj' : j < L.length := by omega
      have hgj : L[j]? = some L[j] := List.getElem?_eq_getElem hj'
      have hej := hL.lt _ (List.getElem_mem hj')
      unfold w_M_gather_25
      refine ⟨fun h => absurd ((lI (by omega) (by omega)).mp h) (by omega), fun _ => ?_⟩
      rw [eI (by omega) (by omega)]
      have nxt : ¬ kn G (G.pa L[j]) L[i] → w_M_gather_25 z mi mc ms post px k10 (d + 1) 0 0 (cI g (M.f 55) h0) M.m (nI L.length) (nI i) (nI L[i]) (nI j + 1) := fun hnk => by
        rw [nI_1]
        refine ih (j + 1) (by omega) (fun q f hq hf => ?_)
        by_cases hqj : q = j
        · subst hqj
          rw [hgj] at hf
          rw [← Option.some.inj hf]; exact hnk
        · exact hno q f (by omega) hf
      refine ⟨fun hij => nxt ?_, fun hij => ?_⟩
      · subst hij
        unfold kn
        rw [hw.pa_own _ hei]; omega
      · (refine ⟨?_, ?_⟩; (focus (first | exact hasI_of (by assumption) (by decide) | exact hasR_of (by assumption) (by decide))); rintro _ rfl; try rw [hR'.f.g])
        (refine ⟨?_, ?_⟩; (focus (first | exact hasI_of (by assumption) (by decide) | exact hasR_of (by assumption) (by decide))); rintro _ rfl; try rw [hR'.f.l])
        refine ⟨_, rfl, ?_⟩
        (refine ⟨j, ⟨_, hR'.kf 52 (by decide) rfl, rfl, by omega, by decide⟩, ?_⟩; rintro _ rfl; try rw [hL'.at j _ hgj])
        refine ⟨_, rfl, ?_⟩
        refine ⟨⟨_, _, by assumption, by decide⟩, 0, 0, by omega, by omega, ?_⟩
        refine t_isBefore hw hR' hei hej (fun hy => ⟨fun h => absurd h (by decide), fun _ => ⟨by omega, by omega, kx ⟨L[j], List.getElem_mem hj', L[i], List.getElem_mem hi, hy⟩ h0⟩⟩) (fun hy => ⟨fun _ => nxt hy, fun h => absurd rfl h⟩)
  have key : ∀ d i, i + d = L.length → ∀ (h : Nat → Int32), (∀ s, s < 16 → h s = nI (vL G (L.take i) s)) → (∀ q e, q < i → L[q]? = some e → ∀ f ∈ L, ¬ kn G (G.pa f) e) → w_M_gather_10 z mi mc ms post px (d + 1) 0 0 (cI g (M.f 55) h) M.m (nI L.length) (nI i) := by
    intro d
    induction d with
    | zero =>
      intro i hi h hh hno
      unfold w_M_gather_10
      refine ⟨fun _ => kr (tg_no.mpr (fun e he f hf => ?_)) h (fun s hs => ?_), fun h => absurd ((lI (by omega) (by omega)).mpr (by omega)) h⟩
      · obtain ⟨q, hq⟩ := List.getElem?_of_mem hf
        have := (List.getElem?_eq_some_iff.mp hq).1
        exact hno q f (by omega) hq e he
      · rw [hh s hs, List.take_of_length_le (by omega)]
    | succ d ih =>
      intro i hi h hh hno
      have hi' : i < L.length := by omega
      have hgi : L[i]? = some L[i] := List.getElem?_eq_getElem hi'
      have hR' := hR.cA hw (i := 55) (by decide) h
      have hL' := RMj.cS hR.k hL h
      have hm := hR'.k.m
      unfold w_M_gather_10
      refine ⟨fun h => absurd ((lI (by omega) (by omega)).mp h) (by omega), fun _ => ?_⟩
      (refine ⟨?_, ?_⟩; (focus (first | exact hasI_of (by assumption) (by decide) | exact hasR_of (by assumption) (by decide))); rintro _ rfl; try rw [hR'.f.l])
      refine ⟨_, rfl, ?_⟩
      (refine ⟨i, ⟨_, hR'.kf 52 (by decide) rfl, rfl, by omega, by decide⟩, ?_⟩; rintro _ rfl; try rw [hL'.at i _ hgi])
      refine ⟨_, inner h i hi' _ hh (fun hrow h' hh' => ?_) L.length 0 (by omega) (fun q f hq => absurd hq (by omega))⟩
      rw [nI_1]
      refine ih (i + 1) (by omega) h' hh' (fun q e hq he => ?_)
      by_cases hqi : q = i
      · subst hqi
        rw [hgi] at he
        rw [← Option.some.inj he]; exact hrow
      · exact hno q e (by omega) he
  unfold w_M_gather
  (refine ⟨?_, ?_⟩; (focus (first | exact hasI_of (by assumption) (by decide) | exact hasR_of (by assumption) (by decide))); rintro _ rfl; try rw [hR.f.s])
  refine ⟨0, 0, by omega, by omega, ?_⟩
  refine t_fillS h55 (fun h hh => ⟨_, key L.length 0 (by omega) h (fun s hs => ?_) (fun q e hq => absurd hq (by omega))⟩)
  rw [hh s hs]; rfl
end MG
