section MINT
variable {z mi mc ms : Nat} {G G2 : AG} {M M0 M2 : MA} {g g0 g2 : Sg} {L : List Nat} {V W : Nat → Nat} {F R F2 R2 : Nat → Nat → Int32} {I I2 : Nat → Int32} {k : Nat → Bool → List Nat} {rl : Nat → Nat}
theorem t_ins200 (hw : WF G) {s i B p : Nat} {b : Bool} {c : Int32} (ok : okE G s W) (hw1 : WF (addN G s W)) (hA : ADD z M0 g0 G s W V M M2 g2 F R I) (hP : PM M0 g0 M2 g F2 R I) (hn : near G.ne F F2) (n38 : F2 38 G.ne = 1) (n40 : F2 40 G.ne = c) (n41 : F2 41 G.ne = pv p) (n45 : F2 45 G.ne = bv b) (hB : bN G W i B) (hh : hg G W B p b) {post : Sg → Prop} {kc ks : Nat} (hkc : kc ≤ mc) (hks : ks ≤ ms)
    (kp : ∀ G2 M3 g3, stI G s W i c G2 → WF G2 → DON M0 g0 G G2 s V M M3 g3 → post g3) : w_G_insert_200 z mi mc ms post kc ks g M2.gr (nI G.ne) := by
  have hg := hP.k.gr
  have hlt := ok.ne
  have hq1 := hn.q hA.q
  have hqn := hq1.n
  have hR : RM (addN G s W) M2 g := hP.rm hw1 (by rw [hA.eh]; exact hq1)
  obtain ⟨hp, hpb, hpk⟩ := hg_kn hw hB hh
  obtain ⟨l1, l2, hl, h1, h2⟩ := split_ex hw s p b
  have e43 := hn.o 43 (by decide) (by decide) (by decide) (by decide) (by decide)
  have e44 := hn.o 44 (by decide) (by decide) (by decide) (by decide) (by decide)
  have e49 := hn.o 49 (by decide) (by decide) (by decide) (by decide) (by decide)
  have e55 := hn.o 55 (by decide) (by decide) (by decide) (by decide) (by decide)
  have hw2 : WF (addI G s W c (tr_put G.k p b (l1 ++ (G.ne + 1) :: l2))) := wf_addI hw ok hp hpb hpk hl h1 h2
  unfold w_G_insert_200
  refine ⟨⟨_, _, hg, by decide⟩, 0, 0, by omega, by omega, ?_⟩
  refine t_Mhang hw hw1 hlt hP hqn hR (by rw [e43]; exact hA.n43) (by rw [e44]; exact hA.n44) n41 n45 hp hpb hl h1 h2 (fun g3 F3 I3 hH => ?_)
  have hP3 := hH.P
  have hg3 := hP3.k.gr
  refine ⟨⟨_, _, hg3, by decide⟩, 0, 0, by omega, by omega, ?_⟩
  refine t_placeOf hw hlt hqn n41 n45 hp hpb hl hH (fun a1 a2 o1 o2 hal => ?_)
  have hlen := od_len hw
  have hl2 : (od G).length = a1.length + a2.length := by rw [o1, List.length_append]
  have hlen2 := od_len hw2
  have o2' : od (addI G s W c (tr_put G.k p b (l1 ++ (G.ne + 1) :: l2))) = a1 ++ (G.ne + 1) :: a2 := o2
  rw [o2', List.length_append, List.length_cons] at hlen2
  have h31 : I3 31 = nI ((od G).length - 1) := by rw [hH.io 31 (by decide)]; exact hqn.no
  have v31 : fI g3 31 M2.gr = nI ((od G).length - 1) := (hP3.i 31).trans h31
  (refine ⟨?_, ?_⟩; (focus (first | exact hasI_of (by assumption) (by decide) | exact hasR_of (by assumption) (by decide))); rintro _ rfl; try rw [v31])
  refine ⟨_, t_218 hP3 (n := (od G).length - 1) (a := a1.length - 1) (e := G.ne) (by omega) (by omega) h31 (fun g4 h q1 q2 q3 hP4 => ?_)⟩
  refine kp _ _ g4 ⟨B, p, b, l1, l2, hB, hh, hp, hl, h1, h2, rfl⟩ hw2 (hA.don hw2 hP4 (q_addI (F := F2) (I := I) hw hw2 hqn o1 o2 hal ?_ ?_ ?_ ?_ ?_ ?_ ?_ ?_ (fun e he => ?_) (fun e he => ?_) ?_ (fun j hj => ?_) ?_ (fun j hj hj2 => ?_)) ?_)
  · rw [ug_ne (by decide)]; exact hH.io 29 (by decide)
  · rw [ug_ne (by decide)]; exact hH.io 30 (by decide)
  · rw [ug_at]
  · rw [ug_ne (by decide), ug_ne (by decide)]; exact hH.rc
  · rw [ug_ne (by decide), ug_ne (by decide), ug_ne (by decide)]; exact hH.rt
  · rw [ug_ne (by decide), hH.fo 38 (by decide) (by decide) (by decide)]; exact n38
  · rw [ug_ne (by decide), hH.fo 40 (by decide) (by decide) (by decide)]; exact n40
  · rw [e49]; exact hA.n49
  · rw [ug_ne (by decide), hH.fo 38 (by decide) (by decide) (by decide)]
  · rw [ug_ne (by decide), hH.fo 40 (by decide) (by decide) (by decide)]
  · rintro i (rfl | rfl | rfl | rfl | rfl | rfl | rfl)
    · rw [ug_ne (by decide)]; exact hH.fo 32 (by decide) (by decide) (by decide)
    · rw [ug_ne (by decide)]; exact hH.fo 33 (by decide) (by decide) (by decide)
    · rw [ug_ne (by decide)]; exact hH.fo 35 (by decide) (by decide) (by decide)
    · rw [ug_ne (by decide)]; exact hH.fo 36 (by decide) (by decide) (by decide)
    · rw [ug_ne (by decide)]; exact hH.fo 37 (by decide) (by decide) (by decide)
    · rw [ug_ne (by decide)]; exact hH.fo 48 (by decide) (by decide) (by decide)
    · rw [ug_ne (by decide)]; exact hH.fo 49 (by decide) (by decide) (by decide)
  · rw [ug_at, q1 j hj, hH.fo 50 (by decide) (by decide) (by decide)]
  · rw [ug_at]; exact q2
  · rw [ug_at, q3 j hj hj2, hH.fo 50 (by decide) (by decide) (by decide)]
  · rw [ug_ne (by decide), hH.fo 55 (by decide) (by decide) (by decide)]; exact e55
theorem knN {s e : Nat} (he : e < G.ne) : kn (addN G s W) W e ↔ kn G W e := (evS_N s W).kno he W
theorem t_ins161 (hw : WF G) {s i B : Nat} {c : Int32} (ok : okE G s W) (hw1 : WF (addN G s W)) (hWb : ∀ t, t < 16 → W t ≤ 8192) (hA : ADD z M0 g0 G s W V M M2 g2 F R I) (hP : PM M0 g0 M2 g F2 R I) (hn : near G.ne F F2) (n38 : F2 38 G.ne = 1) (n40 : F2 40 G.ne = c) (n45 : F2 45 G.ne = bv false) (hB : bN G W i B) {c0 vv : List Nat} (ho : od G = c0 ++ B :: vv) (hy : ∃ d ∈ G.k B true, kn G W (d - 1)) {post : Sg → Prop}
    (kp : ∀ G2 M3 g3, stI G s W i c G2 → WF G2 → DON M0 g0 G G2 s V M M3 g3 → post g3) : ∃ n, w_G_insert_161 z mi mc ms post n 0 0 g M2.gr (nI G.ne) (nI (16 * G.ne)) (nI c0.length) := by
  have hg := hP.k.gr
  have hlt := ok.ne
  have hq1 := hn.q hA.q
  have hR : RM (addN G s W) M2 g := hP.rm hw1 (by rw [hA.eh]; exact hq1)
  have hnN : (addN G s W).ne = G.ne + 1 := rfl
  have hV : VS g (M2.f 37) (16 * G.ne) W := by
    refine VS.mk ⟨_, hP.k.f 37 (by decide), by show 16 * G.ne + 16 ≤ 131072; omega, by decide⟩ (fun t ht => ?_) hWb
    rw [hP.a 37 (by decide), hq1.pa G.ne t (Nat.lt_succ_self _) ht]
    show nI (ug G.pa G.ne W G.ne t) = _
    rw [ug_at]
  have hlen := od_len hw
  rw [ho, List.length_append, List.length_cons] at hlen
  have loop : ∀ (r d : List Nat), d ++ r = vv → (∀ w ∈ d, ¬ kn G W (w - 1)) → w_G_insert_161 z mi mc ms post (r.length + 1) 0 0 g M2.gr (nI G.ne) (nI (16 * G.ne)) (nI (c0.length + d.length)) := by
    intro r
    induction r with
    | nil =>
      intro d hd hdk
      rw [List.append_nil] at hd
      subst hd
      obtain ⟨x, hx, hxk⟩ := hy
      exact absurd hxk (hdk x (hg_next hw ho hx))
    | cons y r ih =>
      intro d hd hdk
      have hyv : y ∈ vv := by rw [← hd]; simp
      obtain ⟨e, rfl, hen⟩ := od_pos hw ho y hyv
      have he := hen.1
      have hll : vv.length = d.length + (r.length + 1) := by rw [← hd]; simp
      have hord : aI g (M2.f 50) (c0.length + d.length) = nI e := by
        rw [hP.a 50 (by decide)]
        refine hq1.n.ord _ (e + 1) ?_
        have e2 : c0 ++ B :: vv = (c0 ++ (B :: d)) ++ (e + 1) :: r := by rw [← hd]; simp
        rw [ho, e2]
        have e3 : c0.length + d.length + 1 = (c0 ++ (B :: d)).length := by simp; omega
        rw [e3]; exact get_mid
      show w_G_insert_161 z mi mc ms post ((r.length + 1) + 1) 0 0 g M2.gr (nI G.ne) (nI (16 * G.ne)) (nI (c0.length + d.length))
      unfold w_G_insert_161
      (refine ⟨?_, ?_⟩; (focus (first | exact hasI_of (by assumption) (by decide) | exact hasR_of (by assumption) (by decide))); rintro _ rfl; try rw [hP.f.f 37 (by decide)])
      (refine ⟨?_, ?_⟩; (focus (first | exact hasI_of (by assumption) (by decide) | exact hasR_of (by assumption) (by decide))); rintro _ rfl; try rw [hP.f.f 50 (by decide)])
      refine ⟨_, rfl, ?_⟩
      (refine ⟨c0.length + d.length, ⟨_, hP.k.f 50 (by decide), rfl, by show c0.length + d.length < 8192; omega, by decide⟩, ?_⟩; rintro _ rfl; try rw [hord])
      refine ⟨⟨_, _, by assumption, by decide⟩, 0, 0, by omega, by omega, ?_⟩
      refine t_has hw1 hR hV (by rw [hnN]; omega) (fun hk => ⟨fun _ => ?_, fun h => absurd h (by decide)⟩) (fun hk => ⟨fun h => absurd rfl h, fun _ => ?_⟩)
      · rw [knN he] at hk
        (refine ⟨?_, ?_⟩; (focus (first | exact hasI_of (by assumption) (by decide) | exact hasR_of (by assumption) (by decide))); rintro _ rfl; try rw [hP.f.f 41 (by decide)])
        (refine ⟨?_, ?_⟩; (focus (first | exact hasI_of (by assumption) (by decide) | exact hasR_of (by assumption) (by decide))); rintro _ rfl; try rw [hP.f.f 50 (by decide)])
        refine ⟨_, rfl, ?_⟩
        (refine ⟨c0.length + d.length, ⟨_, hP.k.f 50 (by decide), rfl, by show c0.length + d.length < 8192; omega, by decide⟩, ?_⟩; rintro _ rfl; try rw [hord])
        refine ⟨_, rfl, ?_⟩
        refine ⟨G.ne, ⟨_, hP.k.f 41 (by decide), rfl, hlt, by decide⟩, ?_⟩
        intro g1 e1
        have hP1 := hP.sF 41 (by decide) G.ne (nI e)
        rw [← e1] at hP1
        clear e1
        refine t_ins200 (p := e + 1) (b := false) hw ok hw1 hA hP1 (hn.w (by decide) _) n38 n40 ?_ n45 hB (Or.inr ⟨hy, rfl, c0, d, r, ?_, hdk, hk⟩) (by omega) (by omega) kp
        · show ug (F2 41) G.ne (nI e) G.ne = _
          rw [ug_at, pvs]
        · rw [ho, ← hd]
      · rw [knN he] at hk
        rw [nI_1]
        have := ih (d ++ [e + 1]) (by rw [← hd]; simp) (fun w hw' => by
          rcases List.mem_append.mp hw' with h | h
          · exact hdk w h
          · rw [List.mem_singleton.mp h]; exact hk)
        have e3 : c0.length + (d ++ [e + 1]).length = c0.length + d.length + 1 := by simp; omega
        rw [e3] at this
        exact this
  exact ⟨_, by have := loop vv [] rfl (fun w h => nomatch h); rw [List.length_nil, Nat.add_zero] at this; exact this⟩
theorem t_ins45 (hw : WF G) {s i B : Nat} {c v5 : Int32} (ok : okE G s W) (hw1 : WF (addN G s W)) (hWb : ∀ t, t < 16 → W t ≤ 8192) (hA : ADD z M0 g0 G s W V M M2 g2 F R I) (hB : bN G W i B) {c0 vv : List Nat} (ho : od G = c0 ++ B :: vv) (h5 : v5 + 1 = nI c0.length) {post : Sg → Prop}
    (kp : ∀ G2 M3 g3, stI G s W i c G2 → WF G2 → DON M0 g0 G G2 s V M M3 g3 → post g3) : w_G_insert_45 z mi mc ms post 0 0 g2 M2.gr (nI G.ne) (nI i) c (nI (16 * G.ne)) v5 (pv B) := by
  have hP := hA.P
  have hg := hP.k.gr
  have hlt := ok.ne
  have hnN : (addN G s W).ne = G.ne + 1 := rfl
  have hBo : B ∈ od G := by rw [ho]; simp
  have hBl := od_le hw hBo
  unfold w_G_insert_45
  (refine ⟨?_, ?_⟩; (focus (first | exact hasI_of (by assumption) (by decide) | exact hasR_of (by assumption) (by decide))); rintro _ rfl; try rw [hP.f.f 39 (by decide)])
  refine ⟨_, rfl, ?_⟩
  refine ⟨G.ne, ⟨_, hP.k.f 39 (by decide), rfl, hlt, by decide⟩, ?_⟩
  intro g3 e3
  have hP3 := hP.sF 39 (by decide) G.ne (nI i)
  rw [← e3] at hP3
  clear e3
  have hg3 := hP3.k.gr
  (refine ⟨?_, ?_⟩; (focus (first | exact hasI_of (by assumption) (by decide) | exact hasR_of (by assumption) (by decide))); rintro _ rfl; try rw [hP3.f.f 38 (by decide)])
  refine ⟨_, rfl, ?_⟩
  refine ⟨G.ne, ⟨_, hP3.k.f 38 (by decide), rfl, hlt, by decide⟩, ?_⟩
  intro g4 e4
  rw [nar1] at e4
  have hP4 := hP3.sF 38 (by decide) G.ne 1
  rw [← e4] at hP4
  clear e4
  have hg4 := hP4.k.gr
  (refine ⟨?_, ?_⟩; (focus (first | exact hasI_of (by assumption) (by decide) | exact hasR_of (by assumption) (by decide))); rintro _ rfl; try rw [hP4.f.f 40 (by decide)])
  refine ⟨_, rfl, ?_⟩
  refine ⟨G.ne, ⟨_, hP4.k.f 40 (by decide), rfl, hlt, by decide⟩, ?_⟩
  intro g5 e5
  have hP5 := hP4.sF 40 (by decide) G.ne c
  rw [← e5] at hP5
  clear e5
  have hg5 := hP5.k.gr
  have hn0 : near G.ne F F := near.mk (fun _ _ _ _ _ _ => rfl) (fun _ _ => rfl) (fun _ _ => rfl)
  have hn5 := ((hn0.w (i := 39) (by decide) (nI i)).w (i := 38) (by decide) 1).w (i := 40) (by decide) c
  have hq5 := hn5.q hA.q
  have hR5 : RM (addN G s W) M2 g5 := hP5.rm hw1 (by rw [hA.eh]; exact hq5)
  have hV5 : VS g5 (M2.f 37) (16 * G.ne) W := by
    refine VS.mk ⟨_, hP5.k.f 37 (by decide), by show 16 * G.ne + 16 ≤ 131072; omega, by decide⟩ (fun t ht => ?_) hWb
    rw [hP5.a 37 (by decide), hq5.pa G.ne t (Nat.lt_succ_self _) ht]
    show nI (ug G.pa G.ne W G.ne t) = _
    rw [ug_at]
  have fin : ∀ (hu : Bool), (hu = true → ∃ d ∈ G.k B true, kn G W (d - 1)) → (hu = false → ∀ d ∈ G.k B true, ¬ kn G W (d - 1)) → ∀ n, w_G_insert_92 z mi mc ms post (n + 1) 0 0 g5 M2.gr (nI G.ne) (nI (16 * G.ne)) v5 (pv B) (bv hu) (-1) := by
    intro hu h1 h0 n
    unfold w_G_insert_92
    refine ⟨fun _ => ?_, fun h => absurd (by decide) h⟩
    (refine ⟨?_, ?_⟩; (focus (first | exact hasI_of (by assumption) (by decide) | exact hasR_of (by assumption) (by decide))); rintro _ rfl; try rw [hP5.f.f 45 (by decide)])
    have step : ∀ (x : Int32), x = bv (!hu) → w_G_insert_141 z mi mc ms post 0 0 g5 M2.gr (nI G.ne) (nI (16 * G.ne)) v5 (pv B) (bv hu) x (nI G.ne) (some (M2.f 45)) := by
      intro x hx
      have hnx : vp_nar .boolean x = x := by
        rw [hx]
        cases hu with
        | true => exact nar0
        | false => exact nar1
      unfold w_G_insert_141
      refine ⟨_, rfl, ?_⟩
      refine ⟨G.ne, ⟨_, hP5.k.f 45 (by decide), rfl, hlt, by decide⟩, ?_⟩
      intro g6 e6
      rw [hnx] at e6
      have hP6 := hP5.sF 45 (by decide) G.ne x
      rw [← e6] at hP6
      clear e6
      have hg6 := hP6.k.gr
      (refine ⟨?_, ?_⟩; (focus (first | exact hasI_of (by assumption) (by decide) | exact hasR_of (by assumption) (by decide))); rintro _ rfl; try rw [hP6.f.f 41 (by decide)])
      refine ⟨_, rfl, ?_⟩
      refine ⟨G.ne, ⟨_, hP6.k.f 41 (by decide), rfl, hlt, by decide⟩, ?_⟩
      intro g7 e7
      have hP7 := hP6.sF 41 (by decide) G.ne (pv B)
      rw [← e7] at hP7
      clear e7
      have hn7 := (hn5.w (i := 45) (by decide) x).w (i := 41) (by decide) (pv B)
      cases hu with
      | false =>
        refine ⟨fun _ => ?_, fun h => absurd rfl h⟩
        refine t_ins200 (p := B) (b := true) hw ok hw1 hA hP7 hn7 (ug_at _ _ _) (ug_at _ _ _) (ug_at _ _ _) ?_ hB (Or.inl ⟨h0 rfl, rfl, rfl⟩) (by omega) (by omega) kp
        show ug _ G.ne x G.ne = bv true
        rw [ug_at]; exact hx
      | true =>
        refine ⟨fun h => absurd h (by decide), fun _ => ?_⟩
        rw [h5]
        refine t_ins161 hw ok hw1 hWb hA hP7 hn7 (ug_at _ _ _) (ug_at _ _ _) ?_ hB ho (h1 rfl) kp
        show ug _ G.ne x G.ne = bv false
        rw [ug_at]; exact hx
    cases hu with
    | false => exact ⟨fun h => absurd rfl h, fun _ => step 1 rfl⟩
    | true => exact ⟨fun _ => step 0 rfl, fun h => absurd h (by decide)⟩
  have loop : ∀ (r d : List Nat) (hu : Bool), d ++ r = G.k B true → (hu = true → ∃ q ∈ d, kn G W (q - 1)) → (hu = false → ∀ q ∈ d, ¬ kn G W (q - 1)) → ∀ v8, chI (aI g5 (M2.f 42)) v8 (r.map (· - 1)) → w_G_insert_92 z mi mc ms post (r.length + 1) 0 0 g5 M2.gr (nI G.ne) (nI (16 * G.ne)) v5 (pv B) (bv hu) v8 := by
    intro r
    induction r with
    | nil =>
      intro d hu hd h1 h0 v8 hv
      rw [List.append_nil] at hd
      subst hd
      have hv' : v8 = -1 := hv
      subst hv'
      exact fin hu h1 h0 _
    | cons y r ih =>
      intro d hu hd h1 h0 v8 hv
      have hv' : v8 = nI (y - 1) := hv.1
      subst hv'
      have hy := k_ev hw (p := B) (b := true) (c := y) (by rw [← hd]; simp)
      show w_G_insert_92 z mi mc ms post ((r.length + 1) + 1) 0 0 g5 M2.gr (nI G.ne) (nI (16 * G.ne)) v5 (pv B) (bv hu) (nI (y - 1))
      unfold w_G_insert_92
      refine ⟨fun h => absurd h (nI_pos (by omega)), fun _ => ?_⟩
      (refine ⟨?_, ?_⟩; (focus (first | exact hasI_of (by assumption) (by decide) | exact hasR_of (by assumption) (by decide))); rintro _ rfl; try rw [hP5.f.f 37 (by decide)])
      refine ⟨⟨_, _, by assumption, by decide⟩, 0, 0, by omega, by omega, ?_⟩
      have go : ∀ (x : Bool) (w : Int32), w = bv x → (x = true ↔ kn G W (y - 1)) → (hasR g5 M2.gr 42 ∧ ∀ o104 : Option Nat, o104 = fR g5 42 M2.gr → ∃ a105, o104 = some a105 ∧ (∃ j106 : Nat, inA g5 a105 100 (nI (y - 1)) j106 ∧ ∀ x107 : Int32, x107 = aI g5 a105 j106 → w_G_insert_92 z mi mc ms post (r.length + 1) (0 + 0) (0 + 0) g5 M2.gr (nI G.ne) (nI (16 * G.ne)) v5 (pv B) (bv hu ||| w) x107)) := by
        intro x w hw' hx
        (refine ⟨?_, ?_⟩; (focus (first | exact hasI_of (by assumption) (by decide) | exact hasR_of (by assumption) (by decide))); rintro _ rfl; try rw [hP5.f.f 42 (by decide)])
        refine ⟨_, rfl, ?_⟩
        (refine ⟨y - 1, ⟨_, hP5.k.f 42 (by decide), rfl, by show y - 1 < 8192; omega, by decide⟩, ?_⟩; rintro _ rfl)
        have eor : bv hu ||| w = bv (hu || x) := by rw [hw']; cases hu <;> cases x <;> decide
        rw [eor]
        refine ih (d ++ [y]) (hu || x) (by rw [← hd]; simp) (fun h => ?_) (fun h => ?_) _ hv.2
        · rcases Bool.or_eq_true_iff.mp h with h | h
          · obtain ⟨q, hq, hqk⟩ := h1 h; exact ⟨q, List.mem_append_left _ hq, hqk⟩
          · exact ⟨y, by simp, hx.mp h⟩
        · obtain ⟨h2, h3⟩ := Bool.or_eq_false_iff.mp h
          intro q hq
          rcases List.mem_append.mp hq with hq | hq
          · exact h0 h2 q hq
          · rw [List.mem_singleton.mp hq]
            exact fun hk => by rw [hx.mpr hk] at h3; cases h3
      refine t_has hw1 hR5 hV5 (by rw [hnN]; omega) (fun hk => ?_) (fun hk => ?_)
      · rw [knN hy.1] at hk; exact go true 1 rfl ⟨fun _ => hk, fun _ => rfl⟩
      · rw [knN hy.1] at hk; exact go false 0 rfl ⟨(fun h => nomatch h), fun h => absurd h hk⟩
  have a42 := hP5.a 42 (by decide)
  have hrt := hq5.n.rt hw
  cases B with
  | zero =>
    refine ⟨fun h => absurd h (by rw [pv0]; decide), fun _ => ?_⟩
    (refine ⟨?_, ?_⟩; (focus (first | exact hasI_of (by assumption) (by decide) | exact hasR_of (by assumption) (by decide))); rintro _ rfl; try rw [hP5.i 46])
    exact ⟨_, loop _ [] false rfl (fun h => nomatch h) (fun _ q h => nomatch h) _ (by rw [a42]; exact hq5.n.rc)⟩
  | succ e =>
    have a44 := hP5.a 44 (by decide)
    rw [pvs]
    refine ⟨fun _ => ?_, fun h => absurd (nI_pos' (by omega)) h⟩
    (refine ⟨?_, ?_⟩; (focus (first | exact hasI_of (by assumption) (by decide) | exact hasR_of (by assumption) (by decide))); rintro _ rfl; try rw [hP5.f.f 44 (by decide)])
    refine ⟨_, rfl, ?_⟩
    (refine ⟨e, ⟨_, hP5.k.f 44 (by decide), rfl, by show e < 8192; omega, by decide⟩, ?_⟩; rintro _ rfl; try rw [a44])
    rw [← pvs]
    exact ⟨_, loop _ [] false rfl (fun h => nomatch h) (fun _ q h => nomatch h) _ (by rw [a42]; exact hrt e hBo true)⟩
theorem t_Ginsert (hw : WF G) {s i : Nat} {c : Int32} (ok : okE G s W) (hWb : ∀ t, t < 16 → W t ≤ 8192) (hA : ADD z M0 g0 G s W V M M2 g2 F R I) (hi : i ≤ (seL G W).length) {post : Sg → Prop}
    (kp : ∀ G2 M3 g3, stI G s W i c G2 → WF G2 → DON M0 g0 G G2 s V M M3 g3 → post g3) : w_G_insert z mi mc ms post g2 M2.gr (nI G.ne) (nI i) c := by
  have hne := ok.ne
  have hw1 := wf_addN hw ok
  have hR := hA.rm hw1
  have hP := hA.P
  have hg := hP.k.gr
  have hil := seL_le (V := W) hw
  have e16 : (16 : Int32) * nI G.ne = nI (16 * G.ne) := by have := mul16 G.ne 0; rw [Nat.add_zero] at this; rw [← this]; exact (Int32.add_zero _).symm
  have ei : nI i = 0 ↔ i = 0 := eI (b := 0) (by omega) (by omega)
  unfold w_G_insert
  rw [ei, e16]
  refine ⟨fun hi0 => ?_, fun hi0 => ?_⟩
  · obtain ⟨j, rfl⟩ : ∃ j, i = j + 1 := ⟨i - 1, by omega⟩
    have e1 : nI (j + 1) - 1 = nI j := by rw [← nI_1]; exact Int32.add_sub_cancel _ _
    (refine ⟨?_, ?_⟩; (focus (first | exact hasI_of (by assumption) (by decide) | exact hasR_of (by assumption) (by decide))); rintro _ rfl; try rw [hP.f.f 37 (by decide)])
    refine ⟨⟨_, _, by assumption, by decide⟩, 0, 0, by omega, by omega, ?_⟩
    rw [e1]
    refine t_seenAt hw1 hR (hA.vs hne hWb) (by rw [seL_N hw]; omega) (fun u x v ho hc hs => ?_)
    have ho' : od G = 0 :: (u ++ x :: v) := ho
    have hxo : x ∈ od G := by rw [ho']; simp
    have hlen := od_len hw
    rw [ho'] at hlen
    simp only [List.length_cons, List.length_append] at hlen
    have hx0 : x ≠ 0 := fun h => by
      have hn := hw.nodup
      rw [ho', h] at hn
      exact (List.nodup_cons.mp hn).1 (by simp)
    obtain ⟨y, rfl, hy, hyi⟩ := ((hw.mem x).mp hxo).resolve_left hx0
    have hord : aI g2 (M2.f 50) u.length = nI y := by
      have := hR.c.ord u.length (y + 1) (by show (od G)[u.length + 1]? = _; rw [ho']; simp)
      exact this
    have hx : sb G W (y + 1) = true := by rw [← sb_N (s := s) hw hxo]; exact hs
    have h0 : sb G W 0 = false := by simp [sb]
    have hB : bN G W (j + 1) (y + 1) := by
      refine ⟨0 :: u, v, ho', ?_, fun h => absurd h (by omega), fun _ => hx⟩
      rw [List.filter_append, List.filter_cons_of_neg (by rw [h0]; decide), List.filter_cons_of_pos hx, List.length_append, ← flt_N (s := s) hw (fun q hq => by rw [ho']; simp [hq]), hc]
      rfl
    unfold w_G_insert_27
    refine ⟨fun _ => ?_, fun h => absurd (nI_pos' (by omega)) h⟩
    (refine ⟨?_, ?_⟩; (focus (first | exact hasI_of (by assumption) (by decide) | exact hasR_of (by assumption) (by decide))); rintro _ rfl; try rw [hP.f.f 50 (by decide)])
    refine ⟨_, rfl, ?_⟩
    (refine ⟨u.length, ⟨_, hP.k.f 50 (by decide), rfl, by show u.length < 8192; omega, by decide⟩, ?_⟩; rintro _ rfl; try rw [hord])
    rw [← pvs]
    exact t_ins45 (B := y + 1) (c0 := 0 :: u) (vv := v) hw ok hw1 hWb hA hB ho' (by rw [nI_1]; rfl) kp
  · subst hi0
    obtain ⟨t, ht⟩ := od_cons hw
    have hB : bN G W 0 0 := by
      refine ⟨[], t, ht, ?_, fun _ => ⟨rfl, rfl⟩, fun h => absurd h (by omega)⟩
      rw [List.nil_append, List.filter_cons_of_neg (by simp [sb])]; rfl
    unfold w_G_insert_27
    refine ⟨fun h => absurd h (by decide), fun _ => ?_⟩
    rw [← pv0]
    exact t_ins45 (B := 0) (c0 := []) (vv := t) hw ok hw1 hWb hA hB ht (by rw [pv0]; decide) kp
end MINT
