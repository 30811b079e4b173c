section MHB
variable {z mi mc ms : Nat} {G G2 : AG} {M M0 M2 : MA} {g g0 g2 : Sg} {L : List Nat} {V W : Nat → Nat} {F R F2 R2 : Nat → Nat → Int32} {I I2 : Nat → Int32} {k : Nat → Bool → List Nat}
theorem chI_mid {f : Nat → Int32} {E : Nat} {w : List Nat} : ∀ (u : List Nat) (v : Int32), chI f v (u ++ E :: w) → chI f (f E) w := by
  intro u
  induction u with
  | nil => exact fun v h => h.2
  | cons a u ih => exact fun v h => ih _ h.2
def bL (l : List Nat) : Int32 := match l.getLast? with
  | none => -1
  | some y => nI (y - 1)
theorem bL_nil : bL [] = -1 := rfl
theorem bL_snoc (l : List Nat) (y : Nat) : bL (l ++ [y]) = nI (y - 1) := by unfold bL; rw [List.getLast?_concat]
theorem ls_N (hw : WF G) {s y : Nat} (hy : y < G.ne) : ls (addN G s W) y G.ne ↔ lf G s y := by
  have e1 : (addN G s W).sl y = G.sl y := ug_ne (by omega)
  have e2 : (addN G s W).sl G.ne = s := ug_at _ _ _
  have e3 : (addN G s W).nu y = G.nu y := ug_ne (by omega)
  have e4 : (addN G s W).nu G.ne = G.ct s := ug_at _ _ _
  have e5 : (addN G s W).nm = G.nm := rfl
  unfold ls lf
  rw [e1, e2, e3, e4, e5]
  refine or_congr Iff.rfl ⟨fun h => h.1, fun h => ⟨h, ?_⟩⟩
  have := hw.nu_lt y hy
  rw [h] at this
  exact this
def HUNG (M0 : MA) (g0 : Sg) (G : AG) (p : Nat) (b : Bool) (l1 l2 : List Nat) (M : MA) (F R : Nat → Nat → Int32) (I : Nat → Int32) (g2 : Sg) (F2 : Nat → Nat → Int32) (I2 : Nat → Int32) : Prop := (PM M0 g0 M g2 F2 R I2) ∧ (chI (F2 42) (I2 46) (((tr_put G.k p b (l1 ++ (G.ne + 1) :: l2)) 0 true).map (· - 1))) ∧ (rT (tr_put G.k p b (l1 ++ (G.ne + 1) :: l2)) (F2 42) (F2 43) (F2 44)) ∧ (∀ i, i ≠ 42 → i ≠ 43 → i ≠ 44 → F2 i = F i) ∧ (∀ f, f ≠ 46 → I2 f = I f)
theorem HUNG.P {M0 : MA} {g0 : Sg} {G : AG} {p : Nat} {b : Bool} {l1 l2 : List Nat} {M : MA} {F R : Nat → Nat → Int32} {I : Nat → Int32} {g2 : Sg} {F2 : Nat → Nat → Int32} {I2 : Nat → Int32} (h : HUNG M0 g0 G p b l1 l2 M F R I g2 F2 I2) : PM M0 g0 M g2 F2 R I2 := h.1
theorem HUNG.rc {M0 : MA} {g0 : Sg} {G : AG} {p : Nat} {b : Bool} {l1 l2 : List Nat} {M : MA} {F R : Nat → Nat → Int32} {I : Nat → Int32} {g2 : Sg} {F2 : Nat → Nat → Int32} {I2 : Nat → Int32} (h : HUNG M0 g0 G p b l1 l2 M F R I g2 F2 I2) : chI (F2 42) (I2 46) (((tr_put G.k p b (l1 ++ (G.ne + 1) :: l2)) 0 true).map (· - 1)) := h.2.1
theorem HUNG.rt {M0 : MA} {g0 : Sg} {G : AG} {p : Nat} {b : Bool} {l1 l2 : List Nat} {M : MA} {F R : Nat → Nat → Int32} {I : Nat → Int32} {g2 : Sg} {F2 : Nat → Nat → Int32} {I2 : Nat → Int32} (h : HUNG M0 g0 G p b l1 l2 M F R I g2 F2 I2) : rT (tr_put G.k p b (l1 ++ (G.ne + 1) :: l2)) (F2 42) (F2 43) (F2 44) := h.2.2.1
theorem HUNG.fo {M0 : MA} {g0 : Sg} {G : AG} {p : Nat} {b : Bool} {l1 l2 : List Nat} {M : MA} {F R : Nat → Nat → Int32} {I : Nat → Int32} {g2 : Sg} {F2 : Nat → Nat → Int32} {I2 : Nat → Int32} (h : HUNG M0 g0 G p b l1 l2 M F R I g2 F2 I2) : ∀ i, i ≠ 42 → i ≠ 43 → i ≠ 44 → F2 i = F i := h.2.2.2.1
theorem HUNG.io {M0 : MA} {g0 : Sg} {G : AG} {p : Nat} {b : Bool} {l1 l2 : List Nat} {M : MA} {F R : Nat → Nat → Int32} {I : Nat → Int32} {g2 : Sg} {F2 : Nat → Nat → Int32} {I2 : Nat → Int32} (h : HUNG M0 g0 G p b l1 l2 M F R I g2 F2 I2) : ∀ f, f ≠ 46 → I2 f = I f := h.2.2.2.2
theorem HUNG.mk {M0 : MA} {g0 : Sg} {G : AG} {p : Nat} {b : Bool} {l1 l2 : List Nat} {M : MA} {F R : Nat → Nat → Int32} {I : Nat → Int32} {g2 : Sg} {F2 : Nat → Nat → Int32} {I2 : Nat → Int32} (h0 : PM M0 g0 M g2 F2 R I2) (h1 : chI (F2 42) (I2 46) (((tr_put G.k p b (l1 ++ (G.ne + 1) :: l2)) 0 true).map (· - 1))) (h2 : rT (tr_put G.k p b (l1 ++ (G.ne + 1) :: l2)) (F2 42) (F2 43) (F2 44)) (h3 : ∀ i, i ≠ 42 → i ≠ 43 → i ≠ 44 → F2 i = F i) (h4 : ∀ f, f ≠ 46 → I2 f = I f) : HUNG M0 g0 G p b l1 l2 M F R I g2 F2 I2 := ⟨h0, h1, h2, h3, h4⟩
theorem mem_put (hw : WF G) (hlt : G.ne < 8192) {p : Nat} {b : Bool} (hp : p ∈ od G) {l1 l2 : List Nat} (hl : G.k p b = l1 ++ l2) : ∀ q, q ∈ tr_S (tr_put G.k p b (l1 ++ (G.ne + 1) :: l2)) 8193 0 → q = G.ne + 1 ∨ q ∈ od G := by
  cases b with
  | true => obtain ⟨u, v, o1, o2⟩ := pl_R hw hlt hp hl; exact mem_ins o1 o2
  | false => obtain ⟨u, v, o1, o2⟩ := pl_L hw hlt hp hl; exact mem_ins o1 o2
theorem t_h56 (hw : WF G) (hlt : G.ne < 8192) {s p : Nat} {b : Bool} (hP : PM M0 g0 M g F R I) (hq : RMn G s W M.rl F R I) (n43 : F 43 G.ne = -1) (n44 : F 44 G.ne = -1) (n45 : F 45 G.ne = bv b) (hp : p ∈ od G) (hpb : p = 0 → b = true) {l1 l2 : List Nat} (hl : G.k p b = l1 ++ l2) {v3 : Int32} (hv : chI (F 42) v3 ((G.k p b).map (· - 1))) {post : Sg → Prop} {kc ks : Nat}
    (kp : ∀ g2 F2 I2, HUNG M0 g0 G p b l1 l2 M F R I g2 F2 I2 → post g2) : w_G_hang_56 z mi mc ms post kc ks g M.gr (nI G.ne) (pv p) v3 (bL l1) := by
  have hg := hP.k.gr
  have hpl := od_le hw hp
  have hmem := mem_put hw hlt hp hl
  have hrt := hq.rt hw
  unfold w_G_hang_56
  rcases l1.eq_nil_or_concat with rfl | ⟨l, y, rfl⟩
  · rw [bL_nil]
    refine ⟨fun _ => ?_, fun h => absurd (by decide) h⟩
    have hl' : G.k p b = l2 := by rw [hl]; rfl
    rw [hl'] at hv
    (refine ⟨?_, ?_⟩; (focus (first | exact hasI_of (by assumption) (by decide) | exact hasR_of (by assumption) (by decide))); rintro _ rfl; try rw [hP.f.f 42 (by decide)])
    refine ⟨_, rfl, ?_⟩
    refine ⟨G.ne, ⟨_, hP.k.f 42 (by decide), rfl, hlt, by decide⟩, ?_⟩
    intro g1 e1
    have hP1 := hP.sF 42 (by decide) G.ne v3
    rw [← e1] at hP1
    clear e1
    have hg1 := hP1.k.gr
    cases p with
    | zero =>
      have hbt := hpb rfl
      subst hbt
      refine ⟨fun h => absurd h (by rw [pv0]; decide), fun _ => ⟨hasI_of hg1 (by decide), ?_⟩⟩
      intro g2 e2
      have hP2 := hP1.wG 46 (by decide) (nI G.ne)
      rw [← e2] at hP2
      clear e2
      obtain ⟨q1, q2⟩ := rt_head hw hlt hp hl' hq.rc hrt n43 n44 hv rfl (Or.inl ⟨rfl, rfl, rfl, rfl, rfl⟩) hmem
      exact kp g2 _ _ (HUNG.mk hP2 q1 q2 (fun i h1 h2 h3 => ug_ne h1) (fun f hf => ug_ne hf))
    | succ e =>
      rw [pvs]
      refine ⟨fun _ => ?_, fun h => absurd (nI_pos' (by omega)) h⟩
      have v45 : aI g1 (M.f 45) G.ne = bv b := by rw [hP1.a 45 (by decide)]; exact n45
      (refine ⟨?_, ?_⟩; (focus (first | exact hasI_of (by assumption) (by decide) | exact hasR_of (by assumption) (by decide))); rintro _ rfl; try rw [hP1.f.f 45 (by decide)])
      refine ⟨_, rfl, ?_⟩
      (refine ⟨G.ne, ⟨_, hP1.k.f 45 (by decide), rfl, hlt, by decide⟩, ?_⟩; rintro _ rfl; try rw [v45])
      cases b with
      | false =>
        refine ⟨fun _ => ?_, fun h => absurd rfl h⟩
        (refine ⟨?_, ?_⟩; (focus (first | exact hasI_of (by assumption) (by decide) | exact hasR_of (by assumption) (by decide))); rintro _ rfl; try rw [hP1.f.f 43 (by decide)])
        refine ⟨_, rfl, ?_⟩
        refine ⟨e, ⟨_, hP1.k.f 43 (by decide), rfl, by show e < 8192; omega, by decide⟩, ?_⟩
        intro g2 e2
        have hP2 := hP1.sF 43 (by decide) e (nI G.ne)
        rw [← e2] at hP2
        clear e2
        obtain ⟨q1, q2⟩ := rt_head hw hlt hp hl' hq.rc hrt n43 n44 hv rfl (Or.inr (Or.inr ⟨by omega, rfl, rfl, rfl, rfl⟩)) hmem
        exact kp g2 _ _ (HUNG.mk hP2 q1 q2 (fun i h1 h2 h3 => (ug_ne h2).trans (ug_ne h1)) (fun f hf => rfl))
      | true =>
        refine ⟨fun h => absurd h (by decide), fun _ => ?_⟩
        (refine ⟨?_, ?_⟩; (focus (first | exact hasI_of (by assumption) (by decide) | exact hasR_of (by assumption) (by decide))); rintro _ rfl; try rw [hP1.f.f 44 (by decide)])
        refine ⟨_, rfl, ?_⟩
        refine ⟨e, ⟨_, hP1.k.f 44 (by decide), rfl, by show e < 8192; omega, by decide⟩, ?_⟩
        intro g2 e2
        have hP2 := hP1.sF 44 (by decide) e (nI G.ne)
        rw [← e2] at hP2
        clear e2
        obtain ⟨q1, q2⟩ := rt_head hw hlt hp hl' hq.rc hrt n43 n44 hv rfl (Or.inr (Or.inl ⟨by omega, rfl, rfl, rfl, rfl⟩)) hmem
        exact kp g2 _ _ (HUNG.mk hP2 q1 q2 (fun i h1 h2 h3 => (ug_ne h3).trans (ug_ne h1)) (fun f hf => rfl))
  · rw [List.concat_eq_append] at hl hmem ⊢
    rw [List.concat_eq_append] at kp
    rw [bL_snoc]
    have hym : y ∈ G.k p b := by rw [hl]; simp
    have hy := k_ev hw hym
    refine ⟨fun h => absurd h (nI_pos (by omega)), fun _ => ?_⟩
    have v42 : aI g (M.f 42) (y - 1) = F 42 (y - 1) := by rw [hP.a 42 (by decide)]
    (refine ⟨?_, ?_⟩; (focus (first | exact hasI_of (by assumption) (by decide) | exact hasR_of (by assumption) (by decide))); rintro _ rfl; try rw [hP.f.f 42 (by decide)])
    (refine ⟨?_, ?_⟩; (focus (first | exact hasI_of (by assumption) (by decide) | exact hasR_of (by assumption) (by decide))); rintro _ rfl; try rw [hP.f.f 42 (by decide)])
    refine ⟨_, rfl, ?_⟩
    (refine ⟨y - 1, ⟨_, hP.k.f 42 (by decide), rfl, by show y - 1 < 8192; omega, by decide⟩, ?_⟩; rintro _ rfl; try rw [v42])
    refine ⟨_, rfl, ?_⟩
    refine ⟨G.ne, ⟨_, hP.k.f 42 (by decide), rfl, hlt, by decide⟩, ?_⟩
    intro g1 e1
    have hP1 := hP.sF 42 (by decide) G.ne (F 42 (y - 1))
    rw [← e1] at hP1
    clear e1
    have hg1 := hP1.k.gr
    (refine ⟨?_, ?_⟩; (focus (first | exact hasI_of (by assumption) (by decide) | exact hasR_of (by assumption) (by decide))); rintro _ rfl; try rw [hP1.f.f 42 (by decide)])
    refine ⟨_, rfl, ?_⟩
    refine ⟨y - 1, ⟨_, hP1.k.f 42 (by decide), rfl, by show y - 1 < 8192; omega, by decide⟩, ?_⟩
    intro g2 e2
    have hP2 := hP1.sF 42 (by decide) (y - 1) (nI G.ne)
    rw [← e2] at hP2
    clear e2
    obtain ⟨q1, q2⟩ := rt_mid hw hlt hl hq.rc hrt n43 n44 rfl hmem
    exact kp g2 _ _ (HUNG.mk hP2 q1 q2 (fun i h1 h2 h3 => (ug_ne h1).trans (ug_ne h1)) (fun f hf => rfl))
theorem t_Mhang (hw : WF G) {s p : Nat} {b : Bool} (hw1 : WF (addN G s W)) (hlt : G.ne < 8192) (hP : PM M0 g0 M g F R I) (hq : RMn G s W M.rl F R I) (hR : RM (addN G s W) M g) (n43 : F 43 G.ne = -1) (n44 : F 44 G.ne = -1) (n41 : F 41 G.ne = pv p) (n45 : F 45 G.ne = bv b) (hp : p ∈ od G) (hpb : p = 0 → b = true) {l1 l2 : List Nat} (hl : G.k p b = l1 ++ l2) (h1 : ∀ y ∈ l1, lf G s (y - 1)) (h2 : ∀ y ∈ l2, ¬ lf G s (y - 1)) {post : Sg → Prop}
    (kp : ∀ g2 F2 I2, HUNG M0 g0 G p b l1 l2 M F R I g2 F2 I2 → post g2) : w_G_hang z mi mc ms post g M.gr (nI G.ne) := by
  have hg := hP.k.gr
  have hpl := od_le hw hp
  have hnN : (addN G s W).ne = G.ne + 1 := rfl
  have v41 : aI g (M.f 41) G.ne = pv p := by rw [hP.a 41 (by decide)]; exact n41
  have v45 : aI g (M.f 45) G.ne = bv b := by rw [hP.a 45 (by decide)]; exact n45
  have a42 := hP.a 42 (by decide)
  have hrc : chI (aI g (M.f 42)) (fI g 46 M.gr) ((G.k 0 true).map (· - 1)) := by rw [a42, hP.i]; exact hq.rc
  have hrt : rT G.k (aI g (M.f 42)) (aI g (M.f 43)) (aI g (M.f 44)) := by rw [a42, hP.a 43 (by decide), hP.a 44 (by decide)]; exact hq.rt hw
  unfold w_G_hang
  (refine ⟨?_, ?_⟩; (focus (first | exact hasI_of (by assumption) (by decide) | exact hasR_of (by assumption) (by decide))); rintro _ rfl; try rw [hP.f.f 41 (by decide)])
  refine ⟨_, rfl, ?_⟩
  (refine ⟨G.ne, ⟨_, hP.k.f 41 (by decide), rfl, hlt, by decide⟩, ?_⟩; rintro _ rfl; try rw [v41])
  (refine ⟨?_, ?_⟩; (focus (first | exact hasI_of (by assumption) (by decide) | exact hasR_of (by assumption) (by decide))); rintro _ rfl; try rw [hP.f.f 45 (by decide)])
  refine ⟨_, rfl, ?_⟩
  (refine ⟨G.ne, ⟨_, hP.k.f 45 (by decide), rfl, hlt, by decide⟩, ?_⟩; rintro _ rfl; try rw [v45])
  refine ⟨⟨_, _, by assumption, by decide⟩, 0, 0, by omega, by omega, ?_⟩
  refine t_children hP.k hP.f hrc hrt hp (by omega) hpb (fun v3 hv3 _ => ?_)
  have hv3' : chI (F 42) v3 ((G.k p b).map (· - 1)) := by rw [← a42]; exact hv3
  have fin : ∀ kc ks, w_G_hang_56 z mi mc ms post kc ks g M.gr (nI G.ne) (pv p) v3 (bL l1) := fun kc ks => t_h56 hw hlt hP hq n43 n44 n45 hp hpb hl hv3' kp
  have loop : ∀ (r d : List Nat), d ++ r = l1 → ∀ v5 kc ks, kc ≤ mc → ks ≤ ms → chI (aI g (M.f 42)) v5 ((r ++ l2).map (· - 1)) → w_G_hang_25 z mi mc ms post (r.length + 1) kc ks g M.gr (nI G.ne) (pv p) v3 (bL d) v5 := by
    intro r
    induction r with
    | nil =>
      intro d hd v5 kc ks hkc hks hv
      rw [List.append_nil] at hd
      subst hd
      unfold w_G_hang_25
      cases l2 with
      | nil =>
        have hv' : v5 = -1 := hv
        subst hv'
        exact ⟨fun _ => fin _ _, fun h => absurd (by decide) h⟩
      | cons y l =>
        have hv' : v5 = nI (y - 1) := hv.1
        subst hv'
        have hy := k_ev hw (p := p) (b := b) (c := y) (by rw [hl]; simp)
        refine ⟨fun h => absurd h (nI_pos (by omega)), fun _ => ⟨⟨_, _, hg, by decide⟩, 0, 0, by omega, by omega, ?_⟩⟩
        refine t_isLess hw1 hR (by rw [hnN]; omega) (by rw [hnN]; omega) (fun h => absurd ((ls_N hw hy.1).mp h) (h2 y List.mem_cons_self)) (fun _ => ?_)
        exact ⟨fun _ => fin _ _, fun h => absurd rfl h⟩
    | cons y r ih =>
      intro d hd v5 kc ks hkc hks hv
      have hv' : v5 = nI (y - 1) := hv.1
      subst hv'
      have hyl : y ∈ l1 := by rw [← hd]; simp
      have hy := k_ev hw (p := p) (b := b) (c := y) (by rw [hl]; exact List.mem_append_left _ hyl)
      show w_G_hang_25 z mi mc ms post ((r.length + 1) + 1) kc ks g M.gr (nI G.ne) (pv p) v3 (bL d) (nI (y - 1))
      unfold w_G_hang_25
      refine ⟨fun h => absurd h (nI_pos (by omega)), fun _ => ⟨⟨_, _, hg, by decide⟩, 0, 0, by omega, by omega, ?_⟩⟩
      refine t_isLess hw1 hR (by rw [hnN]; omega) (by rw [hnN]; omega) (fun _ => ?_) (fun h => absurd ((ls_N hw hy.1).mpr (h1 y hyl)) h)
      refine ⟨fun h => absurd h (by decide), fun _ => ?_⟩
      (refine ⟨?_, ?_⟩; (focus (first | exact hasI_of (by assumption) (by decide) | exact hasR_of (by assumption) (by decide))); rintro _ rfl; try rw [hP.f.f 42 (by decide)])
      refine ⟨_, rfl, ?_⟩
      (refine ⟨y - 1, ⟨_, hP.k.f 42 (by decide), rfl, by show y - 1 < 8192; omega, by decide⟩, ?_⟩; rintro _ rfl)
      have := ih (d ++ [y]) (by rw [← hd]; simp) (aI g (M.f 42) (y - 1)) kc ks hkc hks hv.2
      rw [bL_snoc] at this
      exact this
  exact ⟨_, loop l1 [] rfl v3 0 0 (by omega) (by omega) (by rw [← hl]; exact hv3)⟩
end MHB
