section CT
variable {z mi mc ms : Nat} {G G2 : AG} {A : CA} {g g1 g2 : Sg} {V W : Nat → Nat}
set_option maxHeartbeats 1000000 in
theorem t_cut {post : Sg → Prop} {s b n : Nat} {V : Nat → Nat} (hn : n ≤ 2000000) : ∀ (m j : Nat) (G : AG) (A : CA) (g : Sg) (W : Nat → Nat) (o : Option Nat) (i kc ks : Nat), j + m = n → WI z G A g s V W b → (0 < m → ∃ u x v, o = some (nd A x) ∧ od G = u ++ x :: v ∧ (u.filter (sb G W)).length = i ∧ sb G W x = true ∧ (∀ y ∈ v, sb G V y = sb G W y) ∧ m ≤ 1 + (v.filter (sb G W)).length) → (0 < m → okE G s W) → G.ne + m ≤ 8192 → kc + 3 * m ≤ mc → ks + wcost 6 m (A.hc s) (G.ct s) A.ac G.ne ≤ ms →
    (∀ G2 A2 g2, runD m G s W i G2 → WF G2 → RC z G2 A2 g2 → edP 6 m s b G A A2 g g2 → post g2) → w_C_cutOut_24 z mi mc ms post (m + 1) kc ks g A.c (some (A.ga s)) (nI n) (some b) o (nI j) := by
  intro m
  induction m with
  | zero =>
    intro j G A g W o i kc ks hj hI hB _ _ _ _ k
    unfold w_C_cutOut_24
    refine ⟨fun _ => k G A g rfl hI.w hI.r (edP.mk (fC.refl g) rfl rfl rfl rfl (fun _ _ => rfl) (by simp [wcost]) (fun e => ⟨fun _ => rfl, fun h1 h2 => absurd h2 (by omega)⟩)), fun h => absurd ((lI (by omega) (by omega)).mpr (by omega)) h⟩
  | succ m ih =>
    intro j G A g W o i kc ks hj hI hB hok hne hkc hks k
    have hw := hI.w
    have hR := hI.r
    have hs := hI.s
    have ok := hok (by omega)
    obtain ⟨u, x, v, rfl, hod, hcnt, hsx, hvs, hmv⟩ := hB (by omega)
    have hxo := od_mid hod
    obtain ⟨e, rfl, he, hi⟩ : ∃ e, x = e + 1 ∧ e < G.ne ∧ G.ins e = true := by
      rcases (hw.mem x).mp hxo with rfl | h
      · rw [sb_0] at hsx; cases hsx
      · exact h
    have hst : stD G s W i (addD G s W e) := ⟨u, e + 1, v, hod, hcnt, hsx, rfl⟩
    obtain ⟨hw2, hE⟩ := stD_wf hw ok hst
    obtain ⟨tx0, tx1, tx2⟩ := tx_D (W := W) (s := s) hw he hi
    have hkX := hR.k.ea e he
    rw [if_pos hi] at hkX
    rw [show nd A (e + 1) = A.ea e from rfl]
    unfold w_C_cutOut_24
    refine ⟨fun h => absurd ((lI (by omega) (by omega)).mp h) (by omega), fun _ => ⟨(fun h => nomatch h), ?_⟩⟩
    rintro _ ⟨⟩
    have ewc : wcost 6 (m + 1) (A.hc s) (G.ct s) A.ac G.ne = 6 + co (A.hc s) (G.ct s) + co A.ac G.ne + wcost 6 m (cp2 (A.hc s) (G.ct s)) (G.ct s + 1) (cp2 A.ac G.ne) (G.ne + 1) := rfl
    rw [ewc] at hks
    refine ⟨by omega, by omega, fun a ha => ?_⟩
    rintro _ rfl
    have hlv0 : lv g (nO g a 2 6) := (lv.refl g).nO ha
    have hR0 := hR.lv hw hlv0
    refine ⟨0, 0, by omega, by omega, ?_⟩
    unfold w_K_init
    refine ⟨0, 0, by omega, by omega, ?_⟩
    refine t_Einit hR0.k hR0.f hR0.l hs ⟨_, _, hT9 _ _ _ _, by decide⟩ ?_
    obtain ⟨g1, hg1⟩ : ∃ g1, g1 = wR (wI (wR (nO g a 2 6) 7 a (some (A.ga s))) 8 a (nI (G.ct s))) 9 a (some b) := ⟨_, rfl⟩
    rw [← hg1]
    have hlv : lv g g1 := by rw [hg1]; exact ((hlv0.wR ha).wI ha).wR ha
    have hR1 := hR.lv hw hlv
    have T1 : hT g1 a = some (2, 6) := by rw [hg1]; exact hT9 _ _ _ _
    have a7 : fR g1 7 a = some (A.ga s) := by
      rw [hg1, fR_wR_ne _ _ _ (by decide)]; simp only [u_hT_wI, u_hT_wR, u_hT_sI, u_hT_sR, u_hT_sL, u_hT_cI, u_hT_cR, u_fI_wR, u_fI_sI, u_fI_sR, u_fI_sL, u_fI_cI, u_fI_cR, u_fR_wI, u_fR_sI, u_fR_sR, u_fR_sL, u_fR_cI, u_fR_cR, u_aI_wI, u_aI_wR, u_aI_sR, u_aI_sL, u_aI_cR, u_aR_wI, u_aR_wR, u_aR_sI, u_aR_sL, u_aR_cI, u_aL_wI, u_aL_wR, u_aL_sI, u_aL_sR, u_aL_cI, u_aL_cR]; rw [fR_wR]; simp
    have a8 : fI g1 8 a = nI (G.ct s) := by
      rw [hg1]; simp only [u_hT_wI, u_hT_wR, u_hT_sI, u_hT_sR, u_hT_sL, u_hT_cI, u_hT_cR, u_fI_wR, u_fI_sI, u_fI_sR, u_fI_sL, u_fI_cI, u_fI_cR, u_fR_wI, u_fR_sI, u_fR_sR, u_fR_sL, u_fR_cI, u_fR_cR, u_aI_wI, u_aI_wR, u_aI_sR, u_aI_sL, u_aI_cR, u_aR_wI, u_aR_wR, u_aR_sI, u_aR_sL, u_aR_cI, u_aL_wI, u_aL_wR, u_aL_sI, u_aL_sR, u_aL_cI, u_aL_cR]; rw [fI_wI]; simp
    have a9 : fR g1 9 a = some b := by
      rw [hg1, fR_wR]; simp
    have hc1 := hR1.k.c
    have hX1 : hT g1 (A.ea e) = some (3, 13) := by rw [hlv.t _ (nn hkX)]; exact hkX
    have hfr : ∀ e, e < G.ne → A.ea e ≠ a := fun e he => lv_ne ha _ (nn (hR.k.ea e he))
    have hart : a ≠ A.rt := (lv_ne ha _ (nn hR.k.rt)).symm
    have hb1 : hT g1 b = some (100, 16) := by rw [hlv.t _ (nn hI.b)]; exact hI.b
    have hch := hR1.d.ch e he hi
    have insn : (addD G s W e).ins G.ne = false := ug_at _ _ _
    have inso : ∀ q, q < G.ne → (addD G s W e).ins q = G.ins q := fun q hq => ug_ne (by omega)
    have tail : ∀ gx kc' ks', hT gx = hT g1 → fR gx = fR g1 → aI gx = aI g1 → aR gx = aR g1 → aL gx = aL g1 → (∀ f, f ≠ 20 → f ≠ 28 → fI gx f = fI g1 f) → (∀ q, q ≠ A.ea e → fI gx 20 q = fI g1 20 q) → (fI gx 20 (A.ea e) = match (G.ne :: G.de e).getLast? with | none => 1000000 | some d => nI d) → fI gx 28 A.c = nI (txL (addD G s W e) (G.ne + 1)) → kc' = kc + 1 → ks' = ks + 6 →
        w_C_cutOut_77 z mi mc ms post (w_C_cutOut_24 z mi mc ms post (m + 1)) kc' ks' gx A.c (some (A.ga s)) (nI n) (some b) (some (A.ea e)) (nI j) (some a) := by
      intro gx kc' ks' Tx Rx AIx ARx ALx Ix I20 I20e I28 hkc' hks'
      unfold w_C_cutOut_77
      refine ⟨_, rfl, ?_⟩
      refine ⟨hasR_of (by rw [Tx]; exact hX1) (by decide), ?_⟩
      rintro _ rfl
      refine ⟨_, rfl, ?_⟩
      refine ⟨hasR_of (by rw [Tx]; exact T1) (by decide), ?_⟩
      rintro _ rfl
      refine ⟨hasR_of (k := 3) (n := 13) (by show hT gx _ = _; rw [Tx]; exact hX1) (by decide), ?_⟩
      rintro _ rfl
      obtain ⟨g3, hg3⟩ : ∃ g3, g3 = wR (wR gx 12 a (fR gx 19 (A.ea e))) 19 (A.ea e) (some a) := ⟨_, rfl⟩
      rw [← hg3]
      have T3 : hT g3 = hT g1 := by rw [hg3]; exact Tx
      have I3 : fI g3 = fI gx := by rw [hg3]; rfl
      have AI3 : aI g3 = aI g1 := by rw [hg3]; exact AIx
      have AR3 : aR g3 = aR g1 := by rw [hg3]; exact ARx
      have AL3 : aL g3 = aL g1 := by rw [hg3]; exact ALx
      have R3 : ∀ f, f ≠ 12 → f ≠ 19 → fR g3 f = fR g1 f := fun f h1 h2 => by rw [hg3, fR_wR_ne _ _ _ h2, fR_wR_ne _ _ _ h1, Rx]
      have R12 : fR g3 12 = fun q => if q = a then fR g1 19 (A.ea e) else fR g1 12 q := by rw [hg3, fR_wR_ne _ _ _ (by decide), fR_wR, Rx]
      have R19 : fR g3 19 = fun q => if q = A.ea e then some a else fR g1 19 q := by rw [hg3, fR_wR, fR_wR_ne _ _ _ (by decide), Rx]
      have R19e : fR g3 19 (A.ea e) = some a := by rw [R19]; simp
      have R19o : ∀ q, q ≠ A.ea e → fR g3 19 q = fR g1 19 q := fun q hq => by rw [R19]; simp [hq]
      have hK3 : RCk G A (hT g3) := by rw [T3]; exact hR1.k
      have hF3 : RCf G A g3 := RCf.lv hR1.k hR1.f (fun f q _ hf => by rw [I3, Ix f (by omega) (by omega)]) (fun f q _ hf => by rw [R3 f (by omega) (by omega)]) (by rw [AR3])
      have hL3 : RCl z G A (hT g3) (fR g3 2) (fI g3 3) (aR g3) := by rw [T3, R3 2 (by decide) (by decide), I3, Ix 3 (by decide) (by decide), AR3]; exact hR1.l
      have hE3 : RCe G A (fR g3 7) (fI g3 8) (fR g3 9) (fI g3 10) (fI g3 13) (aI g3) := by
        rw [R3 7 (by decide) (by decide), I3, Ix 8 (by decide) (by decide), R3 9 (by decide) (by decide), Ix 10 (by decide) (by decide), Ix 13 (by decide) (by decide), AI3]; exact hR1.e
      refine ⟨⟨_, _, hK3.c, by decide⟩, 2, co (A.hc s) (G.ct s) + co A.ac G.ne, by omega, by omega, ?_⟩
      refine t_keep (b := b) (B := V) hw hK3 hF3 hL3 hs (by omega) hE ⟨_, _, by rw [T3]; exact T1, by decide⟩ (by rw [R3 7 (by decide) (by decide)]; exact a7) (by omega) (by omega) (fun ad hd g4 P => ?_)
      have hN : nd (ca2 A G s a b V ad hd) = (fun x => match x with | 0 => A.rt | e + 1 => ug A.ea G.ne a e) := by
        funext x; cases x <;> rfl
      have hNo : ∀ x ∈ od G, nd (ca2 A G s a b V ad hd) x = nd A x := fun x hx => by
        rcases (hw.mem x).mp hx with rfl | ⟨e', rfl, he', -⟩
        · rfl
        · exact ug_ne (by omega)
      have hRC : RC z (addD G s W e) (ca2 A G s a b V ad hd) g4 := by
        refine RC_new hw hw2 hE hs inso (fun _ _ _ => rfl) hK3 hF3 hE3 (by rw [T3, insn]; exact T1) hfr hart (by rw [T3]; exact hb1) hI.bvw (fun t ht => ?_) (fun t _ hts => (hI.wv t hts).symm) hI.vs (by rw [R3 7 (by decide) (by decide)]; exact a7) (by rw [I3, Ix 8 (by decide) (by decide)]; exact a8) (by rw [R3 9 (by decide) (by decide)]; exact a9) (fun h => by rw [insn] at h; cases h) ?_ ?_ ?_ (by rw [I3]; exact I28) (fun e' he' => ?_) P
        · rw [AI3, hlv.ai _ (nn hI.b)]; exact hI.bb t ht
        · rw [R3 14 (by decide) (by decide), R3 15 (by decide) (by decide), R3 16 (by decide) (by decide)]
          intro p hp d
          have hp' : p ∈ od G := hp
          rw [hNo p hp']
          show chn _ _ ((G.k p d).map _)
          rw [List.map_congr_left (g := nd A) (fun y hy => hNo y (od_kid hw hp' hy))]
          exact hR1.s p hp' d
        · rw [R3 17 (by decide) (by decide), R3 18 (by decide) (by decide)]
          have e1 : (tr_S G.k 8193 0).map (nd (ca2 A G s a b V ad hd)) = (tr_S G.k 8193 0).map (nd A) := List.map_congr_left (fun y hy => hNo y hy)
          show chn _ _ ((tr_S G.k 8193 0).map _) ∧ prv _ ((tr_S G.k 8193 0).map _)
          rw [e1]
          exact hR1.o
        · have sp : ∀ q, q < G.ne + 1 → (addD G s W e).ins q = true → q < G.ne ∧ G.ins q = true := fun q hq hq' => by
            have : q < G.ne ∨ q = G.ne := by omega
            rcases this with h | rfl
            · exact ⟨h, by rw [← inso q h]; exact hq'⟩
            · rw [insn] at hq'; cases hq'
          have eao : ∀ q, q < G.ne → (ca2 A G s a b V ad hd).ea q = A.ea q := fun q hq => ug_ne (by omega)
          have mapo : ∀ q, (G.de q).map (ca2 A G s a b V ad hd).ea = (G.de q).map A.ea := fun q => List.map_congr_left (fun d hd' => eao d (hw.de_lt q d hd').2.1)
          refine RCd.mk (fun q hq hq' => ?_) (fun q hq hq' => ?_)
          · obtain ⟨h1, h2⟩ := sp q hq hq'
            rw [eao q h1]
            by_cases hqe : q = e
            · subst hqe
              have : (addD G s W q).de q = G.ne :: G.de q := ug_at _ _ _
              rw [this, List.map_cons, mapo q, show (ca2 A G s a b V ad hd).ea G.ne = a from ug_at _ _ _, R19e]
              refine chn_put (f := fR g1 12) (by rw [R12]; simp) (fun y hy => ?_) hch
              obtain ⟨d, hd', rfl⟩ := List.mem_map.mp hy
              rw [R12]
              simp [hfr d (hw.de_lt q d hd').2.1]
            · have : (addD G s W e).de q = G.de q := ug_ne hqe
              rw [this, mapo q, R19o _ (fun h => hqe (hR.k.ea_inj q e h1 he h))]
              refine chn_congr (f := fR g1 12) _ _ (fun y hy => ?_) (hR1.d.ch q h1 h2)
              obtain ⟨d, hd', rfl⟩ := List.mem_map.mp hy
              rw [R12]
              simp [hfr d (hw.de_lt q d hd').2.1]
          · obtain ⟨h1, h2⟩ := sp q hq hq'
            rw [eao q h1, I3]
            by_cases hqe : q = e
            · subst hqe
              have : (addD G s W q).de q = G.ne :: G.de q := ug_at _ _ _
              rw [this]; exact I20e
            · have : (addD G s W e).de q = G.de q := ug_ne hqe
              rw [this, I20 _ (fun h => hqe (hR.k.ea_inj q e h1 he h))]
              exact hR1.d.fc q h1 h2
        · rw [I3, Ix 11 (by decide) (by decide), hR1.t.2 e' he', tx2 (e' + 1) (by omega)]
      have hfC : fC A.vw g g4 := by
        refine (hlv.fc A.vw).trans (fC.trans (g2 := g3) ?_ P.fc)
        refine fC.mk (fun q _ => by rw [T3]) (fun f q hf _ => by rw [I3, Ix f (by omega) (by omega)]) (fun f q hf _ => by rw [R3 f (by omega) (by omega)]) (fun q _ _ => by rw [AI3]) (fun q _ _ => by rw [AR3]) (fun q _ => by rw [AL3])
      have hl27 : fI g4 27 A.c = fI g 27 A.c := by rw [P.i 27 _ (nn hK3.c) (by decide) (by decide) (by decide) (by decide), I3, Ix 27 (by decide) (by decide), hlv.i _ (nn hR.k.c)]
      have hvw4 : aI g4 A.vw = aI g A.vw := by rw [P.ai _ (nn hK3.vw), AI3, hlv.ai _ (nn hR.k.vw)]
      have hbn4 : aI g4 b = aI g b := by rw [P.ai _ (by rw [T3]; exact nn hb1), AI3, hlv.ai _ (nn hI.b)]
      have hc4 : hT g4 A.c = some (4, 8) := hRC.k.c
      refine ⟨⟨_, _, hc4, by decide⟩, 0, 0, by omega, by omega, ?_⟩
      have hX4 : some (A.ea e) = some (nd (ca2 A G s a b V ad hd) (e + 1)) := congrArg some (hNo (e + 1) hxo).symm
      have hV4 : RCv (ca2 A G s a b V ad hd) V g4 := fun t ht => by show aI g4 A.vw t = _; rw [hvw4]; exact hI.v t ht
      have hnd := hw.nodup
      rw [hod] at hnd
      have hnd' := List.nodup_append.mp hnd
      have hux : ∀ y ∈ u, y ≠ e + 1 := fun y hy h => hnd'.2.2 y hy (e + 1) List.mem_cons_self h
      have hvx : ∀ y ∈ v, y ≠ e + 1 := fun y hy h => (List.nodup_cons.mp hnd'.2.1).1 (h ▸ hy)
      have hmu : ∀ y ∈ u, y ∈ od G := fun y hy => by rw [hod]; exact List.mem_append_left _ hy
      have hmv' : ∀ y ∈ v, y ∈ od G := fun y hy => od_in hod hy
      have sbW : ∀ y ∈ od G, y ≠ e + 1 → sb (addD G s W e) (ug W s (G.ct s + 1)) y = sb G W y := fun y hy hne' => sb_cg hy hw (fun q _ _ hq => ug_ne (by omega)) (fun q hq => hE.knW hw ok hq)
      have sbV : ∀ y ∈ od G, y ≠ e + 1 → sb (addD G s W e) V y = sb G V y := fun y hy hne' => sb_cg hy hw (fun q _ _ hq => ug_ne (by omega)) (fun q hq => hE.kno hq V)
      have sbX : sb (addD G s W e) (ug W s (G.ct s + 1)) (e + 1) = false := by
        cases hc : sb (addD G s W e) (ug W s (G.ct s + 1)) (e + 1) with
        | false => rfl
        | true =>
          have h1 := (sb_s.mp hc).2 G.ne (by rw [show (addD G s W e).de e = G.ne :: G.de e from ug_at _ _ _]; exact List.mem_cons_self)
          exact absurd ((hE.knn _).mpr (by rw [ug_at]; omega)) h1
      have hod4 : od (addD G s W e) = u ++ (e + 1) :: v := hod
      have fin : ∀ o, (0 < m → ∃ u x v, o = some (nd (ca2 A G s a b V ad hd) x) ∧ od (addD G s W e) = u ++ x :: v ∧ (u.filter (sb (addD G s W e) (ug W s (G.ct s + 1)))).length = i ∧ sb (addD G s W e) (ug W s (G.ct s + 1)) x = true ∧ (∀ y ∈ v, sb (addD G s W e) V y = sb (addD G s W e) (ug W s (G.ct s + 1)) y) ∧ m ≤ 1 + (v.filter (sb (addD G s W e) (ug W s (G.ct s + 1)))).length) → w_C_cutOut_24 z mi mc ms post (m + 1) (kc' + 2 + 0) (ks' + (co (A.hc s) (G.ct s) + co A.ac G.ne) + 0) g4 A.c (some (A.ga s)) (nI n) (some b) o (nI j + 1) := by
        intro o ho
        rw [nI_1]
        refine ih (j + 1) _ (ca2 A G s a b V ad hd) g4 (ug W s (G.ct s + 1)) o i _ _ (by omega) ?_ ho (fun hm => hE.okN hw ok (by omega)) (by show G.ne + 1 + m ≤ 8192; omega) (by omega) ?_ (fun G3 A3 g5 hrun hw3 hR3' hP => ?_)
        · refine WI.mk hw2 hRC hV4 (by rw [P.t _ (by rw [T3]; exact nn hb1), T3]; exact hb1) (fun t ht => by rw [hbn4]; exact hI.bb t ht) hI.bvw hI.hb hs ?_ (fun t ht => by rw [ug_ne ht]; exact hI.wv t ht)
          show V s ≤ ug G.ct s (G.ct s + 1) s
          rw [ug_at]; have := hI.vs; omega
        · have e1 : (ca2 A G s a b V ad hd).hc s = cp2 (A.hc s) (G.ct s) := ug_at _ _ _
          have e2 : (addD G s W e).ct s = G.ct s + 1 := ug_at _ _ _
          rw [e1, e2]
          show _ + wcost 6 m (cp2 (A.hc s) (G.ct s)) (G.ct s + 1) (cp2 A.ac G.ne) (G.ne + 1) ≤ ms
          omega
        · have e1 : (ca2 A G s a b V ad hd).hc s = cp2 (A.hc s) (G.ct s) := ug_at _ _ _
          have e2 : (addD G s W e).ct s = G.ct s + 1 := ug_at _ _ _
          have hpo := hP.po
          rw [e1, e2] at hpo
          have hpo' : wcost 6 m (cp2 (A.hc s) (G.ct s)) (G.ct s + 1) (cp2 A.ac G.ne) (G.ne + 1) + 4 * cp2 (A.hc s) (G.ct s) + 4 * cp2 A.ac G.ne ≤ 6 * m + 4 * A3.hc s + 4 * A3.ac := hpo
          refine k G3 A3 g5 ⟨_, hst, hrun⟩ hw3 hR3' (edP.mk (hfC.trans hP.fc) (hP.l.trans hl27) hP.c hP.vw hP.li (fun t ht => (hP.hc t ht).trans (ug_ne ht)) ?_ (fun e => ?_))
          rotate_left
          · have nx : ∀ e, e < G.ne + 1 → A3.bf e = ug A.bf G.ne b e := fun e he => (hP.bf e).1 he
            refine ⟨fun he => by rw [nx e (by omega), ug_ne (by omega)], fun h1 h2 => ?_⟩
            by_cases he : e = G.ne
            · rw [nx e (by omega), he, ug_at]
            · exact (hP.bf e).2 (by show G.ne + 1 ≤ e; omega) (by show e < G.ne + 1 + m; omega)
          rw [ewc]
          have p1 := co_pot (n := G.ct s) (rowD_cap (hR.l.hrow s hs))
          have p2 := co_pot (n := G.ne) (rowD_cap hR.l.row)
          omega
      rw [hX4]
      have hlen : (v.filter (sb (addD G s W e) V)).length = (v.filter (sb G W)).length := by
        rw [List.filter_congr (fun y hy => (sbV y (hmv' y hy) (hvx y hy)).trans (hvs y hy))]
      refine t_nextSeen (A := ca2 A G s a b V ad hd) hw2 hRC hV4 hI.hb hod4 (fun h0 => fin none (fun hm => ?_)) (fun v1 y v2 e1 e2 e3 => fin _ (fun hm => ?_))
      · rw [h0] at hlen
        simp at hlen
        omega
      · subst e1
        have hm1 : ∀ q ∈ v1, q ∈ v1 ++ y :: v2 := fun q hq => List.mem_append_left _ hq
        have hm2 : ∀ q ∈ v2, q ∈ v1 ++ y :: v2 := fun q hq => List.mem_append_right _ (List.mem_cons_of_mem _ hq)
        have hy : y ∈ v1 ++ y :: v2 := List.mem_append_right _ List.mem_cons_self
        have same : ∀ q ∈ v1 ++ y :: v2, sb (addD G s W e) V q = sb (addD G s W e) (ug W s (G.ct s + 1)) q := fun q hq => by
          rw [sbV q (hmv' q hq) (hvx q hq), sbW q (hmv' q hq) (hvx q hq)]; exact hvs q hq
        refine ⟨u ++ (e + 1) :: v1, y, v2, rfl, by rw [hod4]; simp, ?_, by rw [← same y hy]; exact e3, fun q hq => same q (hm2 q hq), ?_⟩
        · rw [List.filter_append, List.filter_cons_of_neg (by rw [sbX]; decide), List.filter_congr (fun q hq => sbW q (hmu q hq) (hux q hq)), List.length_append, hcnt, ← List.filter_congr (fun q hq => same q (hm1 q hq)), e2]
          rfl
        · rw [List.filter_append, e2, List.filter_cons_of_pos e3, List.nil_append, List.length_cons, List.filter_congr (fun q hq => same q (hm2 q hq))] at hlen
          omega
    refine ⟨hasR_of hX1 (by decide), ?_⟩
    rintro _ rfl
    rw [chn_head hch]
    refine ⟨fun h0 => ?_, fun q hq => ?_⟩
    · have hde : G.de e = [] := by
        cases hd : G.de e with
        | nil => rfl
        | cons d l => rw [hd] at h0; cases h0
      have htx := tx0 hde
      refine ⟨hasR_of hc1 (by decide), ?_⟩
      rintro _ rfl
      rw [hR1.f.arr]
      refine ⟨_, rfl, ?_⟩
      refine ⟨⟨_, _, hR1.k.arr, by decide⟩, 0, 0, by omega, by omega, ?_⟩
      refine t_size hR1.k.arr hR1.l.n ?_
      refine ⟨hasI_of hX1 (by decide), ?_⟩
      rintro _ rfl
      refine ⟨hasI_of (k := 4) (n := 8) hc1 (by decide), ?_⟩
      rintro _ rfl
      refine ⟨hasI_of (k := 4) (n := 8) hc1 (by decide), ?_⟩
      rintro _ rfl
      have etx : fI (wI g1 20 (A.ea e) (nI G.ne)) 28 A.c - 1 = nI (txL (addD G s W e) (G.ne + 1)) := by
        rw [fI_wI_ne _ _ _ (by decide), hR1.t.1, ← htx]; exact nI_pred _
      rw [etx]
      refine tail _ _ _ rfl rfl rfl rfl rfl (fun f h1 h2 => by rw [fI_wI_ne _ _ _ h2, fI_wI_ne _ _ _ h1]) (fun q hq => by rw [fI_wI_ne _ _ _ (by decide), fI_wI]; simp [hq]) (by rw [fI_wI_ne _ _ _ (by decide), fI_wI, hde]; simp) (by rw [fI_wI]; simp) rfl rfl
    · have hde : G.de e ≠ [] := fun hd => by rw [hd] at hq; cases hq
      refine tail g1 _ _ rfl rfl rfl rfl rfl (fun f _ _ => rfl) (fun q _ => rfl) ?_ (by rw [tx1 hde]; exact hR1.t.1) rfl rfl
      rw [hR1.d.fc e he hi]
      cases hd : G.de e with
      | nil => exact absurd hd hde
      | cons d l =>
        rw [List.getLast?_cons_cons]
        cases (d :: l).getLast? <;> rfl
end CT
