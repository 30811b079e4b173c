section MR
variable {z mi mc ms : Nat} {G : AG} {M : MA} {g : Sg} {L : List Nat} {V : Nat → Nat}
theorem RM.kf (h : RM G M g) (i : Nat) (hi : isF i) {y : Nat × Nat} (hy : MK i = y) : hT g (M.f i) = some y := by rw [h.k.f i hi, hy]
theorem t_slotOf (hw : WF G) (hR : RM G M g) {x : Int32} {post : Int32 → Sg → Prop} (k1 : ∀ s, s < G.na → nI (G.nm s) = x → post (nI s) g) (k2 : (∀ s, s < G.na → nI (G.nm s) ≠ x) → post (-1) g) : w_G_slotOf z mi mc ms post g M.gr x := by
  have h1 := hR.k.gr
  have h2 := hR.kf 32 (by decide) rfl
  have hna := hw.na_le
  have key : ∀ d i, i + d = G.na → (∀ s, s < i → nI (G.nm s) ≠ x) → ∀ kc ks, w_G_slotOf_2 z mi mc ms post (d + 1) kc ks g M.gr x (nI i) := by
    intro d
    induction d with
    | zero =>
      intro i hi hno kc ks
      unfold w_G_slotOf_2
      (refine ⟨?_, ?_⟩; (focus (first | exact hasI_of (by assumption) (by decide) | exact hasR_of (by assumption) (by decide))); rintro _ rfl; try rw [hR.c.na])
      refine ⟨fun _ => k2 (fun s hs => hno s (by omega)), fun h => absurd ((lI (by omega) (by omega)).mpr (by omega)) h⟩
    | succ d ih =>
      intro i hi hno kc ks
      have hi' : i < G.na := by omega
      unfold w_G_slotOf_2
      (refine ⟨?_, ?_⟩; (focus (first | exact hasI_of (by assumption) (by decide) | exact hasR_of (by assumption) (by decide))); rintro _ rfl; try rw [hR.c.na])
      refine ⟨fun h => absurd ((lI (by omega) (by omega)).mp h) (by omega), fun _ => ?_⟩
      (refine ⟨?_, ?_⟩; (focus (first | exact hasI_of (by assumption) (by decide) | exact hasR_of (by assumption) (by decide))); rintro _ rfl; try rw [hR.f.f 32 (by decide)])
      refine ⟨_, rfl, ?_⟩
      (refine ⟨i, ⟨_, h2, rfl, by omega, by decide⟩, ?_⟩; rintro _ rfl; try rw [hR.c.nm i hi'])
      refine ⟨fun hx => ?_, fun hx => k1 i hi' hx⟩
      rw [nI_1]
      exact ih (i + 1) (by omega) (fun s hs => by
        by_cases hsi : s = i
        · rw [hsi]; exact hx
        · exact hno s (by omega)) kc ks
  unfold w_G_slotOf
  exact ⟨_, key G.na 0 (by omega) (fun s hs => absurd hs (by omega)) 0 0⟩
theorem t_mfind (hw : WF G) (hR : RM G M g) {x y : Int32} {post : Int32 → Sg → Prop} (k1 : ∀ e, fE G x y e → e < G.ne → post (nI e) g) (k0 : (∀ e, ¬ fE G x y e) → post (-1) g) : w_G_find z mi mc ms post g M.gr x y := by
  have h1 := hR.k.gr
  have h33 := hR.kf 33 (by decide) rfl
  have h34 := hR.kf 34 (by decide) rfl
  have hna := hw.na_le
  unfold w_G_find
  refine ⟨⟨_, _, by assumption, by decide⟩, 0, 0, by omega, by omega, ?_⟩
  refine t_slotOf hw hR (fun s hs hx => ⟨fun h => absurd h (pI0 (by omega)), fun _ => ?_⟩) (fun hno => ⟨fun _ => k0 (fun e ⟨s, n, hs, hn, hx, _⟩ => hno s hs hx), fun h => absurd (by decide) h⟩)
  have hc := ct2M hw hs
  have uniq : ∀ s', s' < G.na → nI (G.nm s') = x → s' = s := fun s' hs' hx' => by
    have q1 := hw.nm_le s hs
    have q2 := hw.nm_le s' hs'
    exact hw.nm_inj _ _ hs' hs ((eI (by omega) (by omega)).mp (hx'.trans hx.symm))
  refine ⟨fun hy => k0 (fun e ⟨s', n, hs', hn, hx', hy', _⟩ => ?_), fun hy => ?_⟩
  · have := ct2M hw hs'
    rw [hy'] at hy
    exact pI0 (by omega) hy
  · obtain ⟨j, hj, rfl⟩ := nI_of hy
    (refine ⟨?_, ?_⟩; (focus (first | exact hasI_of (by assumption) (by decide) | exact hasR_of (by assumption) (by decide))); rintro _ rfl; try rw [hR.f.f 33 (by decide)])
    refine ⟨_, rfl, ?_⟩
    (refine ⟨s, ⟨_, h33, rfl, by omega, by decide⟩, ?_⟩; rintro _ rfl; try rw [hR.c.ct s (by omega), if_pos hs])
    have hb : G.ct s < 2 ^ 31 := b31 hc
    rw [nI_ltI hj hb]
    refine ⟨fun hjn => ?_, fun hjn => k0 (fun e ⟨s', n, hs', hn, hx', hy', _⟩ => ?_)⟩
    · have hrl := hR.k.rl s (by omega)
      have hrl2 := hR.c.rl s hs
      (refine ⟨?_, ?_⟩; (focus (first | exact hasI_of (by assumption) (by decide) | exact hasR_of (by assumption) (by decide))); rintro _ rfl; try rw [hR.f.f 34 (by decide)])
      refine ⟨_, rfl, ?_⟩
      (refine ⟨s, ⟨_, h34, rfl, by omega, by decide⟩, ?_⟩; rintro _ rfl; try rw [hR.f.rw s (by omega)])
      refine ⟨_, rfl, ?_⟩
      refine ⟨j, ⟨_, hR.k.rw s (by omega), rfl, by omega, by omega⟩, ?_⟩
      rintro _ rfl
      rw [hR.c.ev s j hs hjn]
      exact k1 _ ⟨s, j, hs, hjn, hx, rfl, rfl⟩ (hw.ev_lt s j hs hjn)
    · obtain rfl := uniq s' hs' hx'
      have := (nI_eq hj (by omega)).mp hy'
      omega
theorem mul16 (e s : Nat) : (16 : Int32) * nI e + nI s = nI (16 * e + s) := by
  have h16 : (16 : Int32) = nI 16 := rfl
  rw [h16]
  unfold nI
  rw [← Int32.ofNat_mul, ← Int32.ofNat_add]
theorem t_isBefore (hw : WF G) (hR : RM G M g) {e f : Nat} (he : e < G.ne) (hf : f < G.ne) {post : Int32 → Sg → Prop} (k1 : kn G (G.pa f) e → post 1 g) (k0 : ¬ kn G (G.pa f) e → post 0 g) : w_G_isBefore z mi mc ms post g M.gr (nI e) (nI f) := by
  have h1 := hR.k.gr
  have h35 := hR.kf 35 (by decide) rfl
  have h36 := hR.kf 36 (by decide) rfl
  have h37 := hR.kf 37 (by decide) rfl
  have hne := hw.ne_le
  have hna := hw.na_le
  have hs := hw.sl_lt e he
  unfold w_G_isBefore
  (refine ⟨?_, ?_⟩; (focus (first | exact hasI_of (by assumption) (by decide) | exact hasR_of (by assumption) (by decide))); rintro _ rfl; try rw [hR.f.f 36 (by decide)])
  refine ⟨_, rfl, ?_⟩
  (refine ⟨e, ⟨_, h36, rfl, by omega, by decide⟩, ?_⟩; rintro _ rfl; try rw [hR.c.nu e he])
  (refine ⟨?_, ?_⟩; (focus (first | exact hasI_of (by assumption) (by decide) | exact hasR_of (by assumption) (by decide))); rintro _ rfl; try rw [hR.f.f 37 (by decide)])
  (refine ⟨?_, ?_⟩; (focus (first | exact hasI_of (by assumption) (by decide) | exact hasR_of (by assumption) (by decide))); rintro _ rfl; try rw [hR.f.f 35 (by decide)])
  refine ⟨_, rfl, ?_⟩
  (refine ⟨e, ⟨_, h35, rfl, by omega, by decide⟩, ?_⟩; rintro _ rfl; try rw [hR.c.sl e he])
  refine ⟨_, rfl, ?_⟩
  rw [mul16]
  (refine ⟨16 * f + G.sl e, ⟨_, h37, rfl, by omega, by decide⟩, ?_⟩; rintro _ rfl; try rw [hR.c.pa f (G.sl e) hf (by omega)])
  rw [lI (pa2M hw hf _) (nu2M hw he)]
  exact ⟨fun h => k0 (by unfold kn; omega), fun h => k1 (by unfold kn; omega)⟩
def VS (g : Sg) (a fr : Nat) (V : Nat → Nat) : Prop := (∃ n, hT g a = some (101, n) ∧ fr + 16 ≤ n ∧ n ≤ 1000000) ∧ (∀ s, s < 16 → aI g a (fr + s) = nI (V s)) ∧ (∀ s, s < 16 → V s ≤ 8192)
theorem VS.k {g : Sg} {a fr : Nat} {V : Nat → Nat} (h : VS g a fr V) : ∃ n, hT g a = some (101, n) ∧ fr + 16 ≤ n ∧ n ≤ 1000000 := h.1
theorem VS.v {g : Sg} {a fr : Nat} {V : Nat → Nat} (h : VS g a fr V) : ∀ s, s < 16 → aI g a (fr + s) = nI (V s) := h.2.1
theorem VS.b {g : Sg} {a fr : Nat} {V : Nat → Nat} (h : VS g a fr V) : ∀ s, s < 16 → V s ≤ 8192 := h.2.2
theorem VS.mk {g : Sg} {a fr : Nat} {V : Nat → Nat} (h0 : ∃ n, hT g a = some (101, n) ∧ fr + 16 ≤ n ∧ n ≤ 1000000) (h1 : ∀ s, s < 16 → aI g a (fr + s) = nI (V s)) (h2 : ∀ s, s < 16 → V s ≤ 8192) : VS g a fr V := ⟨h0, h1, h2⟩
theorem t_has (hw : WF G) (hR : RM G M g) {a fr e : Nat} (hV : VS g a fr V) (he : e < G.ne) {post : Int32 → Sg → Prop} (k1 : kn G V e → post 1 g) (k0 : ¬ kn G V e → post 0 g) : w_G_has z mi mc ms post g M.gr (some a) (nI fr) (nI e) := by
  have h1 := hR.k.gr
  have h35 := hR.kf 35 (by decide) rfl
  have h36 := hR.kf 36 (by decide) rfl
  have hne := hw.ne_le
  have hna := hw.na_le
  have hs := hw.sl_lt e he
  obtain ⟨n, ha, hn, hn2⟩ := hV.k
  unfold w_G_has
  (refine ⟨?_, ?_⟩; (focus (first | exact hasI_of (by assumption) (by decide) | exact hasR_of (by assumption) (by decide))); rintro _ rfl; try rw [hR.f.f 36 (by decide)])
  refine ⟨_, rfl, ?_⟩
  (refine ⟨e, ⟨_, h36, rfl, by omega, by decide⟩, ?_⟩; rintro _ rfl; try rw [hR.c.nu e he])
  (refine ⟨?_, ?_⟩; (focus (first | exact hasI_of (by assumption) (by decide) | exact hasR_of (by assumption) (by decide))); rintro _ rfl; try rw [hR.f.f 35 (by decide)])
  refine ⟨_, rfl, ?_⟩
  (refine ⟨e, ⟨_, h35, rfl, by omega, by decide⟩, ?_⟩; rintro _ rfl; try rw [hR.c.sl e he])
  refine ⟨_, rfl, ?_⟩
  rw [nI_add]
  refine ⟨fr + G.sl e, ⟨_, ha, rfl, by omega, hn2⟩, ?_⟩
  rintro _ rfl
  have hb := hV.b (G.sl e) (by omega)
  rw [hV.v (G.sl e) (by omega), lI (by omega) (nu2M hw he)]
  exact ⟨fun h => k0 (by unfold kn; omega), fun h => k1 (by unfold kn; omega)⟩
theorem t_mSeen (hw : WF G) (hR : RM G M g) {a fr e : Nat} (hV : VS g a fr V) (he : e < G.ne) (hi : G.ins e = true) {post : Int32 → Sg → Prop} (k1 : sn G V e → post 1 g) (k0 : ¬ sn G V e → post 0 g) : w_G_isSeen z mi mc ms post g M.gr (some a) (nI fr) (nI e) := by
  have h1 := hR.k.gr
  have h48 := hR.kf 48 (by decide) rfl
  have h49 := hR.kf 49 (by decide) rfl
  have hne := hw.ne_le
  have loop : ∀ (l : List Nat), (∀ d ∈ l, d < G.ne) → ∀ v, chI (aI g (M.f 48)) v l → ((∀ d ∈ l, ¬ kn G V d) → post 1 g) → ((∃ d ∈ l, kn G V d) → post 0 g) → ∀ kc ks, kc ≤ mc → ks ≤ ms → w_G_isSeen_20 z mi mc ms post (l.length + 1) kc ks g M.gr (some a) (nI fr) v := by
    intro l
    induction l with
    | nil =>
      intro _ v hv q1 q0 kc ks hk hk'
      have : v = -1 := hv
      subst this
      unfold w_G_isSeen_20
      exact ⟨fun _ => q1 (fun d hd => nomatch hd), fun h => absurd (by decide) h⟩
    | cons d l ih =>
      intro hl v hv q1 q0 kc ks hk hk'
      obtain ⟨rfl, hv2⟩ := hv
      have hd := hl d List.mem_cons_self
      show w_G_isSeen_20 z mi mc ms post ((l.length + 1) + 1) kc ks g M.gr (some a) (nI fr) (nI d)
      unfold w_G_isSeen_20
      refine ⟨fun h => absurd h (pI0 (by omega)), fun _ => ?_⟩
      refine ⟨⟨_, _, by assumption, by decide⟩, 0, 0, by omega, by omega, ?_⟩
      refine t_has hw hR hV hd (fun hy => ⟨fun h => absurd h (by decide), fun _ => q0 ⟨d, List.mem_cons_self, hy⟩⟩) (fun hy => ⟨fun _ => ?_, fun h => absurd rfl h⟩)
      (refine ⟨?_, ?_⟩; (focus (first | exact hasI_of (by assumption) (by decide) | exact hasR_of (by assumption) (by decide))); rintro _ rfl; try rw [hR.f.f 48 (by decide)])
      refine ⟨_, rfl, ?_⟩
      (refine ⟨d, ⟨_, h48, rfl, by omega, by decide⟩, ?_⟩; rintro _ rfl)
      exact ih (fun x hx => hl x (List.mem_cons_of_mem _ hx)) _ hv2 (fun h => q1 (fun x hx => by
        rcases List.mem_cons.mp hx with rfl | hx
        · exact hy
        · exact h x hx)) (fun ⟨x, hx, hx'⟩ => q0 ⟨x, List.mem_cons_of_mem _ hx, hx'⟩) kc ks hk hk'
  unfold w_G_isSeen
  refine ⟨⟨_, _, by assumption, by decide⟩, 0, 0, by omega, by omega, ?_⟩
  refine t_has hw hR hV he (fun hy => ⟨fun _ => ?_, fun h => absurd h (by decide)⟩) (fun hy => ⟨fun h => absurd rfl h, fun _ => k0 (fun h => hy h.1)⟩)
  (refine ⟨?_, ?_⟩; (focus (first | exact hasI_of (by assumption) (by decide) | exact hasR_of (by assumption) (by decide))); rintro _ rfl; try rw [hR.f.f 49 (by decide)])
  refine ⟨_, rfl, ?_⟩
  (refine ⟨e, ⟨_, h49, rfl, by omega, by decide⟩, ?_⟩; rintro _ rfl)
  exact ⟨_, loop (G.de e) (fun d hd => (hw.de_lt e d hd).2.1) _ (hR.c.de e he hi) (fun h => k1 ⟨hy, h⟩) (fun ⟨d, hd, hd'⟩ => k0 (fun h => h.2 d hd hd')) 0 0 (by omega) (by omega)⟩
theorem od_get (hw : WF G) {t : List Nat} (ht : od G = 0 :: t) {i : Nat} (hi : i < t.length) : ∃ e, t[i]? = some (e + 1) ∧ e < G.ne ∧ G.ins e = true := by
  have hg : t[i]? = some t[i] := List.getElem?_eq_getElem hi
  obtain ⟨e, he, h1, h2⟩ := od_pos (u := []) (x := 0) hw ht t[i] (List.getElem_mem hi)
  exact ⟨e, by rw [hg, he], h1, h2⟩
theorem t_seenMany (hw : WF G) (hR : RM G M g) {a fr : Nat} (hV : VS g a fr V) {post : Int32 → Sg → Prop} (k : post (nI (seL G V).length) g) : w_G_seenMany z mi mc ms post g M.gr (some a) (nI fr) := by
  have h1 := hR.k.gr
  have h50 := hR.kf 50 (by decide) rfl
  obtain ⟨t, ht⟩ := od_cons hw
  have htl : t.length ≤ 8192 := by
    have := od_len hw
    rw [ht, List.length_cons] at this
    omega
  have hno : fI g 31 M.gr = nI t.length := by
    have := hR.c.no
    rw [ht, List.length_cons, Nat.add_sub_cancel] at this
    exact this
  have hse : seL G V = t.filter (sb G V) := by
    unfold seL
    rw [ht, List.filter_cons_of_neg (by rw [sb_0]; decide)]
  have hod : ∀ i e, t[i]? = some (e + 1) → aI g (M.f 50) i = nI e := fun i e h => by
    have := hR.c.ord i (e + 1) (by rw [ht]; exact h)
    exact this
  have key : ∀ d i q, i + d = t.length → q = ((t.take i).filter (sb G V)).length → ∀ kc ks, kc ≤ mc → ks ≤ ms → w_G_seenMany_5 z mi mc ms post (d + 1) kc ks g M.gr (some a) (nI fr) (nI q) (nI i) := by
    intro d
    induction d with
    | zero =>
      intro i q hi hq kc ks hk hk'
      unfold w_G_seenMany_5
      (refine ⟨?_, ?_⟩; (focus (first | exact hasI_of (by assumption) (by decide) | exact hasR_of (by assumption) (by decide))); rintro _ rfl; try rw [hno])
      refine ⟨fun _ => ?_, fun h => absurd ((lI (by omega) (by omega)).mpr (by omega)) h⟩
      rw [hq, List.take_of_length_le (by omega), ← hse]
      exact k
    | succ d ih =>
      intro i q hi hq kc ks hk hk'
      have hi' : i < t.length := by omega
      obtain ⟨e, hge, he, hie⟩ := od_get hw ht hi'
      have htk : (t.take (i + 1)).filter (sb G V) = (t.take i).filter (sb G V) ++ [e + 1].filter (sb G V) := by
        rw [List.take_add_one, hge, List.filter_append]; rfl
      unfold w_G_seenMany_5
      (refine ⟨?_, ?_⟩; (focus (first | exact hasI_of (by assumption) (by decide) | exact hasR_of (by assumption) (by decide))); rintro _ rfl; try rw [hno])
      refine ⟨fun h => absurd ((lI (by omega) (by omega)).mp h) (by omega), fun _ => ?_⟩
      (refine ⟨?_, ?_⟩; (focus (first | exact hasI_of (by assumption) (by decide) | exact hasR_of (by assumption) (by decide))); rintro _ rfl; try rw [hR.f.f 50 (by decide)])
      refine ⟨_, rfl, ?_⟩
      (refine ⟨i, ⟨_, h50, rfl, by omega, by decide⟩, ?_⟩; rintro _ rfl; try rw [hod i e hge])
      refine ⟨⟨_, _, by assumption, by decide⟩, 0, 0, by omega, by omega, ?_⟩
      refine t_mSeen hw hR hV he hie (fun hs => ⟨fun h => absurd h (by decide), fun _ => ?_⟩) (fun hs => ⟨fun _ => ?_, fun h => absurd rfl h⟩)
      · rw [nI_1, nI_1]
        refine ih (i + 1) (q + 1) (by omega) ?_ kc ks hk hk'
        rw [htk, List.length_append, ← hq, List.filter_cons_of_pos (sb_s.mpr hs)]
        rfl
      · rw [nI_1]
        refine ih (i + 1) q (by omega) ?_ kc ks hk hk'
        have hno' : ¬ sb G V (e + 1) = true := fun h => hs (sb_s.mp h)
        rw [htk, List.length_append, ← hq, List.filter_cons_of_neg hno']
        rfl
  unfold w_G_seenMany
  exact ⟨_, key t.length 0 0 (by omega) rfl 0 0 (by omega) (by omega)⟩
end MR
