section MED
variable {z mi mc ms : Nat} {G G2 : AG} {M M0 M1 M2 : MA} {g g0 g1 g2 : Sg} {L : List Nat} {V W : Nat → Nat}
def MD (M0 : MA) (g0 : Sg) (M : MA) (g : Sg) : Prop := (fM M0 g0 g) ∧ (M.m = M0.m) ∧ (M.gr = M0.gr) ∧ (M.f = M0.f) ∧ (∀ s, s < 16 → M.rw s = M0.rw s ∨ hT g0 (M.rw s) = none) ∧ (∀ f, fI g f M.m = fI g0 f M.m)
theorem MD.m {M0 : MA} {g0 : Sg} {M : MA} {g : Sg} (h : MD M0 g0 M g) : fM M0 g0 g := h.1
theorem MD.em {M0 : MA} {g0 : Sg} {M : MA} {g : Sg} (h : MD M0 g0 M g) : M.m = M0.m := h.2.1
theorem MD.eg {M0 : MA} {g0 : Sg} {M : MA} {g : Sg} (h : MD M0 g0 M g) : M.gr = M0.gr := h.2.2.1
theorem MD.ef {M0 : MA} {g0 : Sg} {M : MA} {g : Sg} (h : MD M0 g0 M g) : M.f = M0.f := h.2.2.2.1
theorem MD.er {M0 : MA} {g0 : Sg} {M : MA} {g : Sg} (h : MD M0 g0 M g) : ∀ s, s < 16 → M.rw s = M0.rw s ∨ hT g0 (M.rw s) = none := h.2.2.2.2.1
theorem MD.j {M0 : MA} {g0 : Sg} {M : MA} {g : Sg} (h : MD M0 g0 M g) : ∀ f, fI g f M.m = fI g0 f M.m := h.2.2.2.2.2
theorem MD.mk {M0 : MA} {g0 : Sg} {M : MA} {g : Sg} (h0 : fM M0 g0 g) (h1 : M.m = M0.m) (h2 : M.gr = M0.gr) (h3 : M.f = M0.f) (h4 : ∀ s, s < 16 → M.rw s = M0.rw s ∨ hT g0 (M.rw s) = none) (h5 : ∀ f, fI g f M.m = fI g0 f M.m) : MD M0 g0 M g := ⟨h0, h1, h2, h3, h4, h5⟩
theorem MD.refl (M : MA) (g : Sg) : MD M g M g := MD.mk (fM.refl M g) rfl rfl rfl (fun _ _ => Or.inl rfl) (fun _ => rfl)
theorem MD.trans (h : MD M0 g0 M1 g1) (h' : MD M1 g1 M2 g2) : MD M0 g0 M2 g2 := by
  have lv : ∀ a, hT g0 a ≠ none → hT g1 a ≠ none := fun a ha => by rw [h.m.t a ha]; exact ha
  refine MD.mk (fM.mk (fun a ha => (h'.m.t a (lv a ha)).trans (h.m.t a ha)) (fun f a hf ha => (h'.m.i f a hf (lv a ha)).trans (h.m.i f a hf ha)) (fun f a hf ha => (h'.m.r f a hf (lv a ha)).trans (h.m.r f a hf ha)) (fun a ha q1 q2 => ?_) (fun a k n ha hk => (h'.m.ar a k n ((h.m.t a (nn ha)).trans ha) hk).trans (h.m.ar a k n ha hk)) (fun a ha => (h'.m.al a (lv a ha)).trans (h.m.al a ha))) (h'.em.trans h.em) (h'.eg.trans h.eg) (h'.ef.trans h.ef) (fun s hs => ?_) (fun f => ?_)
  · refine (h'.m.ai a (lv a ha) (fun i hi => by rw [h.ef]; exact q1 i hi) (fun s hs e => ?_)).trans (h.m.ai a ha q1 q2)
    rcases h.er s hs with q | q
    · exact q2 s hs (e.trans q)
    · exact ha (by rw [e]; exact q)
  · rcases h'.er s hs with q | q
    · rw [q]; exact h.er s hs
    · right
      cases h0 : hT g0 (M2.rw s) with
      | none => rfl
      | some y => exact absurd ((h.m.t _ (nn h0)).trans h0) (by rw [q]; exact fun h => nomatch h)
  · have e1 := h'.j f
    have e2 := h.j f
    rw [h'.em] at e1 ⊢
    exact e1.trans e2
theorem MD.of (h : fM M g g2) (hj : ∀ f, fI g2 f M.m = fI g f M.m) : MD M g M g2 := MD.mk h rfl rfl rfl (fun _ _ => Or.inl rfl) hj
theorem DON.md {s : Nat} (h : DON M0 g0 G G2 s V M M2 g2) : MD M0 g0 M2 g2 := MD.mk h.m h.em h.eg h.ef h.er h.j
def mcost : Nat → Nat → Nat → Nat
  | 0, _, _ => 0
  | m + 1, rl, ct => (if ct = rl then 2 * rl else 0) + mcost m (if ct = rl then 2 * rl else rl) (ct + 1)
theorem mcost_le : ∀ (m rl ct : Nat), mcost m rl ct + 2 * rl ≤ 2 * max rl (2 * (ct + m)) := by
  intro m
  induction m with
  | zero => intro rl ct; unfold mcost; omega
  | succ m ih =>
    intro rl ct
    unfold mcost
    by_cases h : ct = rl
    · rw [if_pos h, if_pos h]
      have := ih (2 * rl) (ct + 1)
      omega
    · rw [if_neg h, if_neg h]
      have := ih rl (ct + 1)
      omega
theorem bN_le {i B : Nat} (h : bN G V i B) : i ≤ (seL G V).length := by
  obtain ⟨u, v, o, c, -, -⟩ := h
  unfold seL
  have e : u ++ B :: v = (u ++ [B]) ++ v := by simp
  rw [o, e, ← c]
  exact cnt_mono _ _
theorem stI_se (hw : WF G) {s i : Nat} {c : Int32} (ok : okE G s W) (h : stI G s W i c G2) : i + 1 ≤ (seL G2 (ug W s (G.ct s + 1))).length := by
  obtain ⟨B, p, b, l1, l2, hB, hh, hp, hl, h1, h2, rfl⟩ := h
  exact bN_le (pl hw ok hB hh hl)
theorem stD_se (hw : WF G) {s i : Nat} (ok : okE G s W) (h : stD G s W i G2) : (seL G2 (ug W s (G.ct s + 1))).length + 1 = (seL G W).length := by
  obtain ⟨u, x, v, o, hc, hx, rfl⟩ := h
  have hxo : x ∈ od G := by rw [o]; simp
  have hx0 : x ≠ 0 := fun h => by rw [h] at hx; simp [sb] at hx
  obtain ⟨y, rfl, hy, hyi⟩ := ((hw.mem x).mp hxo).resolve_left hx0
  have hE := evS_D (G := G) s W y
  have hne := ok.ne
  have oth : ∀ q, q ∈ od G → q ≠ y + 1 → sb (addD G s W (y + 1 - 1)) (ug W s (G.ct s + 1)) q = sb G W q := fun q hq hqy => sb_cg hq hw (fun e _ _ he => ug_ne (by omega)) (fun e he => hE.knW hw ok he)
  have hn := hw.nodup
  rw [o] at hn
  have hn1 := List.nodup_append.mp hn
  have hu : u.filter (sb (addD G s W (y + 1 - 1)) (ug W s (G.ct s + 1))) = u.filter (sb G W) := List.filter_congr (fun q hq => oth q (by rw [o]; simp [hq]) (fun e => hn1.2.2 q hq q (by rw [e]; exact List.mem_cons_self) rfl))
  have hv : v.filter (sb (addD G s W (y + 1 - 1)) (ug W s (G.ct s + 1))) = v.filter (sb G W) := List.filter_congr (fun q hq => oth q (by rw [o]; simp [hq]) (fun e => (List.nodup_cons.mp hn1.2.1).1 (e ▸ hq)))
  have hx' : sb (addD G s W (y + 1 - 1)) (ug W s (G.ct s + 1)) (y + 1) = false := by
    unfold sb
    refine decide_eq_false (fun h => ?_)
    refine h.2.2 G.ne ?_ ?_
    · show G.ne ∈ ug G.de y (G.ne :: G.de y) y
      rw [ug_at]; exact List.mem_cons_self
    · rw [Nat.add_sub_cancel, hE.knn, ug_at]; omega
  have eo : od (addD G s W (y + 1 - 1)) = u ++ (y + 1) :: v := o
  unfold seL
  rw [eo, o, List.filter_append, List.filter_append, List.filter_cons_of_neg (by rw [hx']; decide), List.filter_cons_of_pos hx, hu, hv]
  simp only [List.length_append, List.length_cons]
  omega
def rwP (n s : Nat) (ct : Nat) (M M2 : MA) : Prop := (∀ t, t ≠ s → M2.rl t = M.rl t) ∧ (mcost n (M.rl s) ct + 2 * M.rl s ≤ 2 * M2.rl s)
theorem rwP.o {n s : Nat} {ct : Nat} {M M2 : MA} (h : rwP n s ct M M2) : ∀ t, t ≠ s → M2.rl t = M.rl t := h.1
theorem rwP.po {n s : Nat} {ct : Nat} {M M2 : MA} (h : rwP n s ct M M2) : mcost n (M.rl s) ct + 2 * M.rl s ≤ 2 * M2.rl s := h.2
theorem rwP.mk {n s : Nat} {ct : Nat} {M M2 : MA} (h0 : ∀ t, t ≠ s → M2.rl t = M.rl t) (h1 : mcost n (M.rl s) ct + 2 * M.rl s ≤ 2 * M2.rl s) : rwP n s ct M M2 := ⟨h0, h1⟩
theorem DON.rp {s n : Nat} {M3 : MA} {G3 : AG} (h : DON M0 g0 G G3 s V M M2 g2) (h' : rwP n s (G.ct s + 1) M2 M3) : rwP (n + 1) s (G.ct s) M M3 := by
  refine rwP.mk (fun t ht => (h'.o t ht).trans (h.rlo t ht)) ?_
  have hp := h'.po
  rw [h.rln] at hp
  unfold mcost
  by_cases hc : G.ct s = M.rl s
  · rw [if_pos hc] at hp ⊢
    rw [if_pos hc]
    omega
  · rw [if_neg hc] at hp ⊢
    rw [if_neg hc]
    omega
theorem t_i74 {a i n s : Nat} {c : Int32} (ha : a ≤ 255) (hin : i ≤ 8193) (hn : n ≤ 100) {post : Int32 → Sg → Prop} {px : Nat → Sg → Prop} : ∀ (m j : Nat) (G G0 : AG) (M : MA) (g : Sg) (W : Nat → Nat) (kc ks : Nat), j + m = n → WF G → RM G M g → M.ho = 8192 → au G a G0 s → WF G0 → (m = 0 → G0 = G) → (0 < m → okE G0 s W) → VS g (M.f 55) 0 W → i + j ≤ (seL G0 W).length → G.ne + m ≤ 8192 → kc + m ≤ mc → ks + mcost m (M.rl s) (G0.ct s) ≤ ms →
    (∀ G2 M2 g2, runI m G0 s W (i + j) c j G2 → WF G2 → RM G2 M2 g2 → M2.ho = 8192 → MD M g M2 g2 → rwP m s (G0.ct s) M M2 → G2.ne = G.ne + m → post (nI (txL G2 G2.ne)) g2) → w_M_insert0_74 z mi mc ms post px (m + 1) kc ks g M.m (nI a) (nI i) c (nI n) (nI j) := by
  intro m
  induction m with
  | zero =>
    intro j G G0 M g W kc ks hj hw hR hho hau hw0 h00 _ hV hse hne hkc hks kp
    have e0 := h00 rfl
    subst e0
    have hm := hR.k.m
    have hg := hR.k.gr
    unfold w_M_insert0_74
    refine ⟨fun _ => ?_, fun h => absurd ((lI (by omega) (by omega)).mpr (by omega)) h⟩
    (refine ⟨?_, ?_⟩; (focus (first | exact hasI_of (by assumption) (by decide) | exact hasR_of (by assumption) (by decide))); rintro _ rfl; try rw [hR.f.g])
    refine ⟨_, rfl, ?_⟩
    refine ⟨⟨_, _, hg, by decide⟩, 0, 0, by omega, by omega, ?_⟩
    refine t_mlength hw hR ?_
    exact kp _ M g rfl hw hR hho (MD.refl M g) (rwP.mk (fun _ _ => rfl) (by unfold mcost; omega)) rfl
  | succ m ih =>
    intro j G G0 M g W kc ks hj hw hR hho hau hw0 _ hok hV hse hne hkc hks kp
    have hm := hR.k.m
    have hg := hR.k.gr
    have ok := hok (by omega)
    have ene := au_ne hau
    have hWb : ∀ t, t < 16 → W t ≤ 8192 := hV.b
    unfold mcost at hks
    unfold w_M_insert0_74
    rw [lI (by omega) (by omega), nI_1, nI_add]
    refine ⟨fun h => absurd h (by omega), fun _ => ?_⟩
    (refine ⟨?_, ?_⟩; (focus (first | exact hasI_of (by assumption) (by decide) | exact hasR_of (by assumption) (by decide))); rintro _ rfl; try rw [hR.f.g])
    refine ⟨⟨_, _, hm, by decide⟩, 1, (if G0.ct s = M.rl s then 2 * M.rl s else 0), by omega, by omega, ?_⟩
    refine t_come hw hR (by omega) hau hw0 ok hV (by omega) (fun h => by rw [if_pos h]; exact Nat.le_refl _) (fun M2 g2 F2 R2 I2 hA => ?_) ha
    have hP := hA.P
    have hg2 := hP.k.gr
    rw [hP.eg] at hg2
    refine ⟨_, rfl, ⟨_, _, hg2, by decide⟩, 0, 0, by omega, by omega, ?_⟩
    have := t_Ginsert (z := z) (mi := mi) (mc := 0) (ms := 0) (c := c + nI j) hw0 ok hWb hA (i := i + j) hse (post := fun g3 => w_M_insert0_74 z mi mc ms post px (m + 1) (kc + 1 + 0) (ks + (if G0.ct s = M.rl s then 2 * M.rl s else 0) + 0) g3 M.m (nI a) (nI i) c (nI n) (nI (j + 1))) (fun G1 M3 g3 hst hw1 hD => ?_)
    · rw [hP.eg, ene] at this
      exact this
    · have hR3 := hD.rm
      obtain ⟨-, hE⟩ := stI_wf hw0 ok hst
      have hau1 : au G1 a G1 s := by
        left
        refine ⟨by rw [hE.na]; exact ok.s, ?_, rfl⟩
        rw [hE.nm]
        rcases hau with ⟨h1, h2, rfl⟩ | ⟨h1, rfl, rfl⟩
        · exact h2
        · exact ug_at _ _ _
      have hne1 : G1.ne = G.ne + 1 := by rw [hE.ne, ene]
      have hct1 : G1.ct s = G0.ct s + 1 := by rw [hE.ct, ug_at]
      have hm3 : M3.m = M.m := hD.em
      have hV3 : VS g3 (M3.f 55) 0 (ug W s (G0.ct s + 1)) := by
        refine VS.mk ⟨16, hR3.kf 55 (by decide) rfl, by omega, by omega⟩ (fun t ht => by rw [Nat.zero_add]; exact hD.v t ht) (fun t ht => ?_)
        by_cases h : t = s
        · subst h; rw [ug_at]; have := hw0.ct_le t ok.s; omega
        · rw [ug_ne h]; exact hWb t ht
      rw [← hm3]
      refine ih (j + 1) G1 G1 M3 g3 (ug W s (G0.ct s + 1)) _ _ (by omega) hw1 hR3 hD.eh hau1 hw1 (fun _ => rfl) (fun hm0 => hE.okN hw0 ok (by omega)) hV3 ?_ (by omega) (by omega) ?_ (fun G2 M4 g4 hr hw4 hR4 hh4 hmd hrp hn4 => ?_)
      · have := stI_se hw0 ok hst
        omega
      · rw [hD.rln, hct1]; omega
      · refine kp G2 M4 g4 ⟨G1, hst, hr⟩ hw4 hR4 hh4 (hD.md.trans hmd) (hD.rp (by rw [← hct1]; exact hrp)) (by omega)
theorem t_d61 {a i n s : Nat} (ha : a ≤ 255) (hin : i ≤ 8193) (hn : n ≤ 100) {post : Int32 → Sg → Prop} {px : Nat → Sg → Prop} : ∀ (m j : Nat) (G G0 : AG) (M : MA) (g : Sg) (W : Nat → Nat) (kc ks : Nat), j + m = n → WF G → RM G M g → M.ho = 8192 → au G a G0 s → WF G0 → (m = 0 → G0 = G) → (0 < m → okE G0 s W) → VS g (M.f 55) 0 W → i + m ≤ (seL G0 W).length → G.ne + m ≤ 8192 → kc + m ≤ mc → ks + mcost m (M.rl s) (G0.ct s) ≤ ms →
    (∀ G2 M2 g2, runD m G0 s W i G2 → WF G2 → RM G2 M2 g2 → M2.ho = 8192 → MD M g M2 g2 → rwP m s (G0.ct s) M M2 → G2.ne = G.ne + m → post (nI (txL G2 G2.ne)) g2) → w_M_delete0_61 z mi mc ms post px (m + 1) kc ks g M.m (nI a) (nI i) (nI n) (nI j) := by
  intro m
  induction m with
  | zero =>
    intro j G G0 M g W kc ks hj hw hR hho hau hw0 h00 _ hV hse hne hkc hks kp
    have e0 := h00 rfl
    subst e0
    have hm := hR.k.m
    have hg := hR.k.gr
    unfold w_M_delete0_61
    refine ⟨fun _ => ?_, fun h => absurd ((lI (by omega) (by omega)).mpr (by omega)) h⟩
    (refine ⟨?_, ?_⟩; (focus (first | exact hasI_of (by assumption) (by decide) | exact hasR_of (by assumption) (by decide))); rintro _ rfl; try rw [hR.f.g])
    refine ⟨_, rfl, ?_⟩
    refine ⟨⟨_, _, hg, by decide⟩, 0, 0, by omega, by omega, ?_⟩
    refine t_mlength hw hR ?_
    exact kp _ M g rfl hw hR hho (MD.refl M g) (rwP.mk (fun _ _ => rfl) (by unfold mcost; omega)) rfl
  | succ m ih =>
    intro j G G0 M g W kc ks hj hw hR hho hau hw0 _ hok hV hse hne hkc hks kp
    have hm := hR.k.m
    have hg := hR.k.gr
    have ok := hok (by omega)
    have ene := au_ne hau
    have hWb : ∀ t, t < 16 → W t ≤ 8192 := hV.b
    unfold mcost at hks
    unfold w_M_delete0_61
    rw [lI (by omega) (by omega), nI_1]
    refine ⟨fun h => absurd h (by omega), fun _ => ?_⟩
    (refine ⟨?_, ?_⟩; (focus (first | exact hasI_of (by assumption) (by decide) | exact hasR_of (by assumption) (by decide))); rintro _ rfl; try rw [hR.f.g])
    refine ⟨⟨_, _, hm, by decide⟩, 1, (if G0.ct s = M.rl s then 2 * M.rl s else 0), by omega, by omega, ?_⟩
    refine t_come hw hR (by omega) hau hw0 ok hV (by omega) (fun h => by rw [if_pos h]; exact Nat.le_refl _) (fun M2 g2 F2 R2 I2 hA => ?_) ha
    have hP := hA.P
    have hg2 := hP.k.gr
    rw [hP.eg] at hg2
    refine ⟨_, rfl, ⟨_, _, hg2, by decide⟩, 0, 0, by omega, by omega, ?_⟩
    have := t_erase (z := z) (mi := mi) (mc := 0) (ms := 0) hw0 ok hWb hA (i := i) (by omega) (post := fun g3 => w_M_delete0_61 z mi mc ms post px (m + 1) (kc + 1 + 0) (ks + (if G0.ct s = M.rl s then 2 * M.rl s else 0) + 0) g3 M.m (nI a) (nI i) (nI n) (nI (j + 1))) (fun G1 M3 g3 hst hw1 hD => ?_)
    · rw [hP.eg, ene] at this
      exact this
    · have hR3 := hD.rm
      obtain ⟨-, hE⟩ := stD_wf hw0 ok hst
      have hau1 : au G1 a G1 s := by
        left
        refine ⟨by rw [hE.na]; exact ok.s, ?_, rfl⟩
        rw [hE.nm]
        rcases hau with ⟨h1, h2, rfl⟩ | ⟨h1, rfl, rfl⟩
        · exact h2
        · exact ug_at _ _ _
      have hne1 : G1.ne = G.ne + 1 := by rw [hE.ne, ene]
      have hct1 : G1.ct s = G0.ct s + 1 := by rw [hE.ct, ug_at]
      have hm3 : M3.m = M.m := hD.em
      have hV3 : VS g3 (M3.f 55) 0 (ug W s (G0.ct s + 1)) := by
        refine VS.mk ⟨16, hR3.kf 55 (by decide) rfl, by omega, by omega⟩ (fun t ht => by rw [Nat.zero_add]; exact hD.v t ht) (fun t ht => ?_)
        by_cases h : t = s
        · subst h; rw [ug_at]; have := hw0.ct_le t ok.s; omega
        · rw [ug_ne h]; exact hWb t ht
      rw [← hm3]
      refine ih (j + 1) G1 G1 M3 g3 (ug W s (G0.ct s + 1)) _ _ (by omega) hw1 hR3 hD.eh hau1 hw1 (fun _ => rfl) (fun hm0 => hE.okN hw0 ok (by omega)) hV3 ?_ (by omega) (by omega) ?_ (fun G2 M4 g4 hr hw4 hR4 hh4 hmd hrp hn4 => ?_)
      · have := stD_se hw0 ok hst
        omega
      · rw [hD.rln, hct1]; omega
      · refine kp G2 M4 g4 ⟨G1, hst, hr⟩ hw4 hR4 hh4 (hD.md.trans hmd) (hD.rp (by rw [← hct1]; exact hrp)) (by omega)
end MED
