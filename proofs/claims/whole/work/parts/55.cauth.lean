section CU
variable {z mi mc ms : Nat} {G G2 : AG} {A : CA} {g g1 g2 : Sg} {L : List Nat} {V W : Nat → Nat}
theorem vL_ge {s : Nat} : ∀ (L : List Nat) (m : Nat), m ≤ L.foldl (fun m e => max m (jv G e s)) m ∧ ∀ e ∈ L, jv G e s ≤ L.foldl (fun m e => max m (jv G e s)) m := by
  intro L
  induction L with
  | nil => intro m; exact ⟨Nat.le_refl _, (fun _ h => nomatch h)⟩
  | cons a L ih =>
    intro m
    obtain ⟨h1, h2⟩ := ih (max m (jv G a s))
    refine ⟨by show m ≤ List.foldl _ (max m (jv G a s)) L; omega, fun e he => ?_⟩
    show _ ≤ List.foldl _ (max m (jv G a s)) L
    rcases List.mem_cons.mp he with rfl | he
    · omega
    · exact h2 e he
theorem vL_lt {s x : Nat} : ∀ (L : List Nat) (m : Nat), x < L.foldl (fun m e => max m (jv G e s)) m → x < m ∨ ∃ e ∈ L, x < jv G e s := by
  intro L
  induction L with
  | nil => intro m h; exact Or.inl h
  | cons a L ih =>
    intro m h
    rcases ih (max m (jv G a s)) h with h | ⟨e, he, h⟩
    · by_cases hx : x < m
      · exact Or.inl hx
      · exact Or.inr ⟨a, List.mem_cons_self, by omega⟩
    · exact Or.inr ⟨e, List.mem_cons_of_mem _ he, h⟩
theorem vL_b (hw : WF G) (hL : ∀ e ∈ L, e < G.ne) (s : Nat) : vL G L s ≤ 8192 := vL_le hw L 0 hL (by omega)
theorem vL_ct (hw : WF G) (hL : ∀ e ∈ L, e < G.ne) {t : Nat} (ht : t < G.na) : vL G L t ≤ G.ct t := by
  by_cases h : vL G L t ≤ G.ct t
  · exact h
  · exfalso
    rcases vL_lt (G := G) (s := t) (x := G.ct t) L 0 (by unfold vL at h; omega) with h | ⟨e, he, h⟩
    · omega
    · have he' := hL e he
      unfold jv at h
      by_cases hte : t = G.sl e
      · rw [if_pos hte] at h
        have := hw.nu_lt e he'
        rw [← hte] at this
        omega
      · rw [if_neg hte] at h
        have := hw.pa_le e t he' ht
        omega
theorem vL_0 (hw : WF G) (hL : ∀ e ∈ L, e < G.ne) {t : Nat} (ht : G.na ≤ t) : vL G L t = 0 := by
  by_cases h : vL G L t = 0
  · exact h
  · exfalso
    rcases vL_lt (G := G) (s := t) (x := 0) L 0 (by unfold vL at h; omega) with h | ⟨e, he, h⟩
    · omega
    · have he' := hL e he
      have := hw.sl_lt e he'
      unfold jv at h
      rw [if_neg (by omega), hw.pa_0 e t he' ht] at h
      omega
theorem vL_cl (hw : WF G) (hL : ∀ e ∈ L, e < G.ne) : vcl G (vL G L) := by
  intro e he hk t
  have pj : ∀ f, f < G.ne → ∀ t, G.pa f t ≤ jv G f t := fun f hf t => by
    unfold jv
    by_cases h : t = G.sl f
    · rw [if_pos h, h, hw.pa_own f hf]; omega
    · rw [if_neg h]; exact Nat.le_refl _
  have go : ∀ f ∈ L, G.pa e t ≤ G.pa f t → G.pa e t ≤ vL G L t := fun f hf h => Nat.le_trans h (Nat.le_trans (pj f (hL f hf) t) ((vL_ge (G := G) (s := t) L 0).2 f hf))
  rcases vL_lt (G := G) (s := G.sl e) (x := G.nu e) L 0 hk with h | ⟨f, hf, h⟩
  · omega
  · have hf' := hL f hf
    unfold jv at h
    by_cases hs : G.sl e = G.sl f
    · rw [if_pos hs] at h
      by_cases hn : G.nu e = G.nu f
      · have : e = f := by rw [← hw.ev_of e he, ← hw.ev_of f hf', hs, hn]
        subst this
        exact go e hf (Nat.le_refl _)
      · refine go f hf (hw.pa_cl f hf' e he ?_ t)
        unfold kn
        rw [hs, hw.pa_own f hf']
        omega
    · rw [if_neg hs] at h
      exact go f hf (hw.pa_cl f hf' e he h t)
def au (G : AG) (x : Nat) (G0 : AG) (s : Nat) : Prop := (s < G.na ∧ G.nm s = x ∧ G0 = G) ∨ ((∀ t, t < G.na → G.nm t ≠ x) ∧ s = G.na ∧ G0 = addA G x)
theorem au_ok (hw : WF G) (hL : ∀ e ∈ L, e < G.ne) {x s : Nat} {G0 : AG} (h : au G x G0 s) (hx : x ≤ 255) (hr : G.na < 16 ∨ ∃ t, t < G.na ∧ G.nm t = x) (hne : G.ne < 8192) (hs : ∀ t, t < G.na → G.nm t = x → vL G L t = G.ct t) : WF G0 ∧ okE G0 s (vL G L) := by
  rcases h with ⟨h1, h2, rfl⟩ | ⟨h1, rfl, rfl⟩
  · exact ⟨hw, okE.mk h1 hne (hs s h1 h2) (fun t ht => vL_ct hw hL ht) (fun t ht => vL_0 hw hL ht) (vL_cl hw hL)⟩
  · have hna : G.na < 16 := by
      rcases hr with h | ⟨t, ht, hx'⟩
      · exact h
      · exact absurd hx' (h1 t ht)
    refine ⟨wf_addA hw hx hna h1, okE.mk (Nat.lt_succ_self _) hne ?_ (fun t ht => ?_) (fun t ht => ?_) (show vcl G (vL G L) from vL_cl hw hL)⟩
    · show vL G L G.na = ug G.ct G.na 0 G.na
      rw [ug_at, vL_0 hw hL (Nat.le_refl _)]
    · show vL G L t ≤ ug G.ct G.na 0 t
      have ht' : t < G.na + 1 := ht
      by_cases h : t = G.na
      · rw [h, ug_at, vL_0 hw hL (Nat.le_refl _)]; exact Nat.le_refl _
      · rw [ug_ne h]; exact vL_ct hw hL (by omega)
    · have ht' : G.na + 1 ≤ t := ht
      exact vL_0 hw hL (by omega)
theorem au_uq (hw : WF G) {x s s' : Nat} {G0 G0' : AG} (h : au G x G0 s) (h' : au G x G0' s') : s = s' ∧ G0 = G0' := by
  rcases h with ⟨h1, h2, rfl⟩ | ⟨h1, rfl, rfl⟩
  · rcases h' with ⟨h1', h2', rfl⟩ | ⟨h1', -, -⟩
    · exact ⟨hw.nm_inj _ _ h1 h1' (h2.trans h2'.symm), rfl⟩
    · exact absurd h2 (h1' s h1)
  · rcases h' with ⟨h1', h2', -⟩ | ⟨-, rfl, rfl⟩
    · exact absurd h2' (h1 s' h1')
    · exact ⟨rfl, rfl⟩
def ca1 (A : CA) (G : AG) (z a h : Nat) : CA := CA.mk A.c A.ags A.arr A.rt A.li A.vw A.ad A.ac (ug A.ga G.na a) (ug A.hl G.na h) (ug A.hd G.na z) (ug A.hc G.na 0) A.ea A.bf A.bv
set_option maxHeartbeats 1000000 in
theorem t_author {x : Nat} (hw : WF G) (hR : RC z G A g) (hV : RCv A V g) (hx0 : G.na < 16 ∨ ∃ t, t < G.na ∧ G.nm t = x) (hx : x ≤ 255) (hmc : 2 ≤ mc) (hms : 6 ≤ ms) {post : Option Nat → Sg → Prop}
    (k : ∀ s G0 A0 g2, au G x G0 s → WF G0 → RC z G0 A0 g2 → RCv A0 V g2 → fC A.vw g g2 → fI g2 27 A.c = fI g 27 A.c → A0.c = A.c → A0.vw = A.vw → A0.li = A.li → A0.ac = A.ac → (∀ t, t < G.na → A0.hc t = A.hc t) → (∀ t, G.na ≤ t → A0.hc t ≤ A.hc t) → A0.bf = A.bf → post (some (A0.ga s)) g2) : w_C_authorNamed z mi mc ms post g A.c (nI x) := by
  have hc := hR.k.c
  unfold w_C_authorNamed
  refine ⟨⟨_, _, by assumption, by decide⟩, 0, 0, by omega, by omega, ?_⟩
  refine t_findAgent hw hR (fun s hs he => ⟨(fun h => nomatch h), ?_⟩) (fun hno => ⟨fun _ => ?_, (fun _ h => nomatch h)⟩)
  · rintro _ ⟨⟩
    have := hw.nm_le s hs
    exact k s G A g (Or.inl ⟨hs, (eI (by omega) (by omega)).mp he, rfl⟩) hw hR hV (fC.refl g) rfl rfl rfl rfl rfl (fun _ _ => rfl) (fun _ _ => Nat.le_refl _) rfl
  · have hno' : ∀ s, s < G.na → G.nm s ≠ x := fun s hs e => hno s hs (by rw [e])
    have hna : G.na < 16 := by
      rcases hx0 with h | ⟨t, ht, h⟩
      · exact h
      · exact absurd h (hno' t ht)
    have hw0 := wf_addA hw hx hna hno'
    refine ⟨by omega, by omega, fun a ha => ?_⟩
    rintro _ rfl
    have hlv0 : lv g (nO g a 1 3) := (lv.refl g).nO ha
    have hR0 := hR.lv hw hlv0
    refine ⟨hasI_of hR0.k.c (by decide), ?_⟩
    rintro _ rfl
    rw [hR0.f.na]
    refine ⟨1, 3, by omega, by omega, ?_⟩
    unfold w_A_init
    refine ⟨hasI_of (k := 1) (n := 3) (hT9 _ _ _ _) (by decide), ?_⟩
    rintro _ rfl
    refine ⟨hasI_of (k := 1) (n := 3) (hT9 _ _ _ _) (by decide), ?_⟩
    rintro _ rfl
    refine ⟨by omega, by omega, fun h hh => ?_⟩
    rintro _ rfl
    have hh0 : hT (nO g a 1 3) h = none := hh
    have hha : h ≠ a := fun e => by rw [e, hT9] at hh0; cases hh0
    have hhg : hT g h = none := by rw [hT9n _ hha] at hh0; exact hh0
    refine ⟨0, 0, by omega, by omega, ?_⟩
    unfold w_AL_init
    refine ⟨0, 0, by omega, by omega, ?_⟩
    unfold w_AB_init
    refine ⟨0, 0, by omega, by omega, ?_⟩
    unfold w_AC_init
    refine ⟨hasI_of (k := 0) (n := 3) (hT9 _ _ _ _) (by decide), ?_⟩
    rintro _ rfl
    refine ⟨hasR_of (k := 0) (n := 3) (hT9 _ _ _ _) (by decide), ?_⟩
    rintro _ rfl
    have Ta : hT (nO (wI (wI (nO g a 1 3) 4 a (nI x)) 5 a (nI G.na)) h 0 3) a = some (1, 3) := by
      rw [hT9n _ (Ne.symm hha)]; exact hT9 _ _ _ _
    refine ⟨hasR_of (k := 1) (n := 3) Ta (by decide), ?_⟩
    rintro _ rfl
    obtain ⟨g1, hg1⟩ : ∃ g1, g1 = wR (wR (wI (nO (wI (wI (nO g a 1 3) 4 a (nI x)) 5 a (nI G.na)) h 0 3) 1 h 0) 2 h (some z)) 6 a (some h) := ⟨_, rfl⟩
    rw [← hg1]
    have hlv : lv g g1 := by
      rw [hg1]
      exact ((((((hlv0.wI ha).wI ha).nO hhg).wI hhg).wR hhg).wR ha)
    have hR1 := hR.lv hw hlv
    have T1a : hT g1 a = some (1, 3) := by rw [hg1]; exact Ta
    have T1h : hT g1 h = some (0, 3) := by rw [hg1]; exact hT9 _ _ _ _
    have a4 : fI g1 4 a = nI x := by
      rw [hg1]; simp only [u_hT_wI, u_hT_wR, u_hT_sI, u_hT_sR, u_hT_sL, u_hT_cI, u_hT_cR, u_fI_wR, u_fI_sI, u_fI_sR, u_fI_sL, u_fI_cI, u_fI_cR, u_fR_wI, u_fR_sI, u_fR_sR, u_fR_sL, u_fR_cI, u_fR_cR, u_aI_wI, u_aI_wR, u_aI_sR, u_aI_sL, u_aI_cR, u_aR_wI, u_aR_wR, u_aR_sI, u_aR_sL, u_aR_cI, u_aL_wI, u_aL_wR, u_aL_sI, u_aL_sR, u_aL_cI, u_aL_cR]
      rw [fI_wI_ne _ _ _ (by decide), fI_nO_ne _ (Ne.symm hha), fI_wI_ne _ _ _ (by decide), fI_wI]; simp
    have a5 : fI g1 5 a = nI G.na := by
      rw [hg1]; simp only [u_hT_wI, u_hT_wR, u_hT_sI, u_hT_sR, u_hT_sL, u_hT_cI, u_hT_cR, u_fI_wR, u_fI_sI, u_fI_sR, u_fI_sL, u_fI_cI, u_fI_cR, u_fR_wI, u_fR_sI, u_fR_sR, u_fR_sL, u_fR_cI, u_fR_cR, u_aI_wI, u_aI_wR, u_aI_sR, u_aI_sL, u_aI_cR, u_aR_wI, u_aR_wR, u_aR_sI, u_aR_sL, u_aR_cI, u_aL_wI, u_aL_wR, u_aL_sI, u_aL_sR, u_aL_cI, u_aL_cR]
      rw [fI_wI_ne _ _ _ (by decide), fI_nO_ne _ (Ne.symm hha), fI_wI]; simp
    have a6 : fR g1 6 a = some h := by rw [hg1, fR_wR]; simp
    have h3 : fI g1 3 h = 0 := by
      rw [hg1]; simp only [u_hT_wI, u_hT_wR, u_hT_sI, u_hT_sR, u_hT_sL, u_hT_cI, u_hT_cR, u_fI_wR, u_fI_sI, u_fI_sR, u_fI_sL, u_fI_cI, u_fI_cR, u_fR_wI, u_fR_sI, u_fR_sR, u_fR_sL, u_fR_cI, u_fR_cR, u_aI_wI, u_aI_wR, u_aI_sR, u_aI_sL, u_aI_cR, u_aR_wI, u_aR_wR, u_aR_sI, u_aR_sL, u_aR_cI, u_aL_wI, u_aL_wR, u_aL_sI, u_aL_sR, u_aL_cI, u_aL_cR]
      rw [fI_wI_ne _ _ _ (by decide)]; exact fI_nO _
    have h2 : fR g1 2 h = some z := by
      rw [hg1, fR_wR_ne _ _ _ (by decide), fR_wR]; simp
    have hc1 := hR1.k.c
    have hags := hR1.k.ags
    refine ⟨hasR_of hc1 (by decide), ?_⟩
    rintro _ rfl
    rw [hR1.f.ags]
    refine ⟨hasI_of hc1 (by decide), ?_⟩
    rintro _ rfl
    rw [hR1.f.na]
    refine ⟨_, rfl, ?_⟩
    refine ⟨G.na, ⟨_, hags, rfl, hna, by decide⟩, ⟨_, _, T1a, by decide⟩, ?_⟩
    rintro _ rfl
    refine ⟨hasI_of (k := 4) (n := 8) hc1 (by decide), ?_⟩
    rintro _ rfl
    refine ⟨hasI_of (k := 4) (n := 8) hc1 (by decide), ?_⟩
    rintro _ rfl
    have e26 : fI (sR g1 A.ags G.na (some a)) 26 A.c + 1 = nI (G.na + 1) := by
      show fI g1 26 A.c + 1 = _
      rw [hR1.f.na, nI_1]
    rw [e26]
    obtain ⟨g2, hg2⟩ : ∃ g2, g2 = wI (sR g1 A.ags G.na (some a)) 26 A.c (nI (G.na + 1)) := ⟨_, rfl⟩
    rw [← hg2]
    have T2 : hT g2 = hT g1 := by rw [hg2]; rfl
    have I2 : ∀ f, f ≠ 26 → fI g2 f = fI g1 f := fun f hf => by rw [hg2, fI_wI_ne _ _ _ hf]; rfl
    have R2 : fR g2 = fR g1 := by rw [hg2]; rfl
    have AI2 : aI g2 = aI g1 := by rw [hg2]; rfl
    have AL2 : aL g2 = aL g1 := by rw [hg2]; rfl
    have ARn : ∀ q, q ≠ A.ags → aR g2 q = aR g1 q := fun q hq => by rw [hg2]; simp only [u_hT_wI, u_hT_wR, u_hT_sI, u_hT_sR, u_hT_sL, u_hT_cI, u_hT_cR, u_fI_wR, u_fI_sI, u_fI_sR, u_fI_sL, u_fI_cI, u_fI_cR, u_fR_wI, u_fR_sI, u_fR_sR, u_fR_sL, u_fR_cI, u_fR_cR, u_aI_wI, u_aI_wR, u_aI_sR, u_aI_sL, u_aI_cR, u_aR_wI, u_aR_wR, u_aR_sI, u_aR_sL, u_aR_cI, u_aL_wI, u_aL_wR, u_aL_sI, u_aL_sR, u_aL_cI, u_aL_cR]; rw [aR9n _ _ _ hq]
    have ARs : aR g2 A.ags = fun j => if j = G.na then some a else aR g1 A.ags j := by rw [hg2]; simp only [u_hT_wI, u_hT_wR, u_hT_sI, u_hT_sR, u_hT_sL, u_hT_cI, u_hT_cR, u_fI_wR, u_fI_sI, u_fI_sR, u_fI_sL, u_fI_cI, u_fI_cR, u_fR_wI, u_fR_sI, u_fR_sR, u_fR_sL, u_fR_cI, u_fR_cR, u_aI_wI, u_aI_wR, u_aI_sR, u_aI_sL, u_aI_cR, u_aR_wI, u_aR_wR, u_aR_sI, u_aR_sL, u_aR_cI, u_aL_wI, u_aL_wR, u_aL_sI, u_aL_sR, u_aL_cI, u_aL_cR]; rw [aR9]
    have sp : ∀ s, s < G.na + 1 → s < G.na ∨ s = G.na := fun s hs => by omega
    have gao : ∀ s, s < G.na → (ca1 A G z a h).ga s = A.ga s := fun s hs => ug_ne (by omega)
    have gan : (ca1 A G z a h).ga G.na = a := ug_at _ _ _
    have hlo : ∀ s, s < G.na → (ca1 A G z a h).hl s = A.hl s := fun s hs => ug_ne (by omega)
    have hln : (ca1 A G z a h).hl G.na = h := ug_at _ _ _
    have hdo : ∀ s, s < G.na → (ca1 A G z a h).hd s = A.hd s := fun s hs => ug_ne (by omega)
    have hdn : (ca1 A G z a h).hd G.na = z := ug_at _ _ _
    have hco : ∀ s, s < G.na → (ca1 A G z a h).hc s = A.hc s := fun s hs => ug_ne (by omega)
    have hcn : (ca1 A G z a h).hc G.na = 0 := ug_at _ _ _
    have nmo : ∀ s, s < G.na → (addA G x).nm s = G.nm s := fun s hs => ug_ne (by omega)
    have nmn : (addA G x).nm G.na = x := ug_at _ _ _
    have cto : ∀ s, s < G.na → (addA G x).ct s = G.ct s := fun s hs => ug_ne (by omega)
    have ctn : (addA G x).ct G.na = 0 := ug_at _ _ _
    have hcl : ∀ s, s < G.na + 1 → 0 < (ca1 A G z a h).hc s → s < G.na := fun s hs h0 => by
      rcases sp s hs with h | rfl
      · exact h
      · rw [hcn] at h0; omega
    have hK2 : RCk (addA G x) (ca1 A G z a h) (hT g2) := by
      rw [T2]
      have hK := hR1.k
      refine RCk.mk hK.c hK.ags hK.arr hK.rt hK.li hK.vw (fun s hs => ?_) (fun s hs => ?_) hK.ea hK.bf hK.ea_inj hK.ea_rt (fun s t hs ht e => ?_) (fun s t hs ht e => ?_) (fun s hs => ?_) hK.bf_vw (fun s t hs ht p1 p2 e => ?_) (fun s hs p1 p2 => ?_)
      · rcases sp s hs with q | rfl
        · rw [gao s q]; exact hK.ga s q
        · rw [gan]; exact T1a
      · rcases sp s hs with q | rfl
        · rw [hlo s q]; exact hK.hl s q
        · rw [hln]; exact T1h
      · rcases sp s hs with q | rfl
        · rcases sp t ht with r | rfl
          · rw [gao s q, gao t r] at e; exact hK.ga_inj s t q r e
          · rw [gao s q, gan] at e; exact absurd e (lv_ne ha _ (nn (hR.k.ga s q)))
        · rcases sp t ht with r | rfl
          · rw [gao t r, gan] at e; exact absurd e.symm (lv_ne ha _ (nn (hR.k.ga t r)))
          · rfl
      · rcases sp s hs with q | rfl
        · rcases sp t ht with r | rfl
          · rw [hlo s q, hlo t r] at e; exact hK.hl_inj s t q r e
          · rw [hlo s q, hln] at e; exact absurd e (lv_ne hhg _ (nn (hR.k.hl s q)))
        · rcases sp t ht with r | rfl
          · rw [hlo t r, hln] at e; exact absurd e.symm (lv_ne hhg _ (nn (hR.k.hl t r)))
          · rfl
      · rcases sp s hs with q | rfl
        · rw [hlo s q]; exact hK.hl_arr s q
        · rw [hln]; exact (lv_ne hhg _ (nn hR.k.arr)).symm
      · have q := hcl s hs p1
        have r := hcl t ht p2
        rw [hco s q] at p1
        rw [hco t r] at p2
        rw [hdo s q, hdo t r] at e
        exact hK.hd_inj s t q r p1 p2 e
      · have q := hcl s hs p1
        rw [hco s q] at p1
        rw [hdo s q]
        exact hK.hd_ad s q p1 p2
    have hF2 : RCf (addA G x) (ca1 A G z a h) g2 := by
      refine RCf.mk (by rw [R2]; exact hR1.f.ags) (by rw [R2]; exact hR1.f.arr) (by rw [R2]; exact hR1.f.rt) (by rw [R2]; exact hR1.f.li) (by rw [R2]; exact hR1.f.vw) ?_ (fun s hs => ?_) (fun s hs => ?_) (fun s hs => ?_) (fun s hs => ?_)
      · show fI g2 26 A.c = nI (G.na + 1)
        rw [hg2, fI_wI]; simp
      · show aR g2 A.ags s = _
        rw [ARs]
        rcases sp s hs with q | rfl
        · have hne : s ≠ G.na := by omega
          rw [gao s q]; simp only [hne, if_false]; exact hR1.f.ag s q
        · rw [gan]; simp
      · rw [I2 4 (by decide)]
        rcases sp s hs with q | rfl
        · rw [gao s q, nmo s q]; exact hR1.f.nm s q
        · rw [gan, nmn]; exact a4
      · rw [I2 5 (by decide)]
        rcases sp s hs with q | rfl
        · rw [gao s q]; exact hR1.f.sl s q
        · rw [gan]; exact a5
      · rw [R2]
        rcases sp s hs with q | rfl
        · rw [gao s q, hlo s q]; exact hR1.f.hl s q
        · rw [gan, hln]; exact a6
    have hrow : ∀ {d cap n : Nat} {f : Nat → Nat}, rowD z (hT g1) (aR g1) d cap n f → rowD z (hT g2) (aR g2) d cap n f := fun {d cap n f} hh => by
      obtain ⟨r1, r2, r4, r3⟩ := hh
      refine ⟨r1, r2, r4, ?_⟩
      rcases r3 with q | ⟨q1, q2, q3⟩
      · exact Or.inl q
      · refine Or.inr ⟨q1, by rw [T2]; exact q2, fun i hi => ?_⟩
        rw [ARn d (fun e => by rw [e, hags] at q2; cases q2)]
        exact q3 i hi
    have hL2 : RCl z (addA G x) (ca1 A G z a h) (hT g2) (fR g2 2) (fI g2 3) (aR g2) := by
      refine RCl.mk (by rw [I2 3 (by decide)]; exact hR1.l.n) (by rw [R2]; exact hR1.l.d) (hrow hR1.l.row) (fun s hs => ?_) (fun s hs => ?_) (fun s hs => ?_)
      · rw [I2 3 (by decide)]
        rcases sp s hs with q | rfl
        · rw [hlo s q, cto s q]; exact hR1.l.hn s q
        · rw [hln, ctn]; exact h3
      · rw [R2]
        rcases sp s hs with q | rfl
        · rw [hlo s q, hdo s q]; exact hR1.l.hd s q
        · rw [hln, hdn]; exact h2
      · rcases sp s hs with q | rfl
        · rw [hdo s q, hco s q, cto s q]; exact hrow (hR1.l.hrow s q)
        · rw [hdn, hcn, ctn]; exact ⟨by omega, by omega, by omega, Or.inl ⟨rfl, rfl⟩⟩
    have hE2 : RCe (addA G x) (ca1 A G z a h) (fR g2 7) (fI g2 8) (fR g2 9) (fI g2 10) (fI g2 13) (aI g2) := by
      rw [R2, I2 8 (by decide), I2 10 (by decide), I2 13 (by decide), AI2]
      refine RCe.mk (fun e he => ?_) hR1.e.nu hR1.e.bf hR1.e.ar hR1.e.cd hR1.e.bv hR1.e.pa hR1.e.own
      show _ = some ((ca1 A G z a h).ga (G.sl e))
      rw [gao _ (hw.sl_lt e he)]
      exact hR1.e.ag e he
    have hN : nd (ca1 A G z a h) = nd A := by funext q; cases q <;> rfl
    have hRC : RC z (addA G x) (ca1 A G z a h) g2 := by
      refine RC.mk hK2 hF2 hL2 hE2 ?_ ?_ ?_ ?_
      · rw [R2]
        show rS G.k (nd (ca1 A G z a h)) _ _
        rw [hN]; exact hR1.s
      · rw [R2]
        show rO G.k (nd (ca1 A G z a h)) _ _
        rw [hN]; exact hR1.o
      · rw [R2, I2 20 (by decide)]
        exact RCd.mk hR1.d.ch hR1.d.fc
      · rw [I2 11 (by decide), I2 28 (by decide)]
        exact hR1.t
    have hfr2 : fC A.vw g1 g2 := fC.mk (fun q _ => by rw [T2]) (fun f q hf _ => by rw [I2 f (by omega)]) (fun f q _ _ => by rw [R2]) (fun q _ _ => by rw [AI2]) (fun q n hq => ARn q (fun e => by rw [e, hags] at hq; cases hq)) (fun q _ => by rw [AL2])
    have hga : some a = some ((ca1 A G z a h).ga G.na) := by rw [gan]
    rw [hga]
    refine k G.na (addA G x) (ca1 A G z a h) g2 (Or.inr ⟨hno', rfl, rfl⟩) hw0 hRC (fun t ht => ?_) ((hlv.fc _).trans hfr2) (by rw [I2 27 (by decide), hlv.i _ (nn hR.k.c)]) rfl rfl rfl rfl hco (fun t ht => ?_) rfl
    · show aI g2 A.vw t = _
      rw [AI2, hlv.ai _ (nn hR.k.vw)]; exact hV t ht
    · by_cases e : t = G.na
      · rw [e, hcn]; exact Nat.zero_le _
      · exact Nat.le_of_eq (ug_ne e)
end CU
