section MPL
variable {z mi mc ms : Nat} {G G2 : AG} {M M0 M2 : MA} {g g0 g2 : Sg} {L : List Nat} {V W : Nat → Nat} {F R F2 R2 : Nat → Nat → Int32} {I I2 : Nat → Int32} {k : Nat → Bool → List Nat}
theorem t_rowOf (hw : WF G) (hP : PM M0 g0 M g F R I) (hord : ∀ i x, (od G)[i + 1]? = some x → F 50 i = nI (x - 1)) {e : Nat} {c d : List Nat} (ho : od G = c ++ (e + 1) :: d) {post : Int32 → Sg → Prop} (kp : 0 < c.length → post (nI (c.length - 1)) g) : w_G_inRow z mi mc ms post g M.gr (nI e) := by
  have hn := hw.nodup
  have hlen := od_len hw
  obtain ⟨t, ht⟩ : ∃ t, od G = 0 :: t := od_cons hw
  cases c with
  | nil => rw [ht] at ho; simp at ho
  | cons c0 u =>
    have e0 : c0 = 0 ∧ t = u ++ (e + 1) :: d := by
      rw [ht] at ho
      simp only [List.cons_append, List.cons.injEq] at ho
      exact ⟨ho.1.symm, ho.2⟩
    obtain ⟨rfl, rfl⟩ := e0
    rw [ht] at hn hlen
    have hn2 := (List.nodup_cons.mp hn).2
    refine t_inRow9 hP.k hP.f (u := u) (v := d) (fun i y hy => ?_) (fun hm => ?_) (fun y hy => ?_) (by simp only [List.length_cons] at hlen; omega) ?_
    · rw [hP.a 50 (by decide)]
      refine hord i y ?_
      rw [ht]; exact hy
    · exact (List.nodup_append.mp hn2).2.2 _ hm _ List.mem_cons_self rfl
    · have hy' : y ∈ od G := by rw [ht]; exact List.mem_cons_of_mem _ hy
      have hy0 : y ≠ 0 := fun h => (List.nodup_cons.mp hn).1 (h ▸ hy)
      have := od_le hw hy'
      have := hw.ne_le
      omega
    · have := kp (by simp)
      simpa using this
theorem t_placeOf (hw : WF G) {s p : Nat} {b : Bool} (hlt : G.ne < 8192) (hq : RMn G s W M.rl F R I) (n41 : F 41 G.ne = pv p) (n45 : F 45 G.ne = bv b) (hp : p ∈ od G) (hpb : p = 0 → b = true) {l1 l2 : List Nat} (hl : G.k p b = l1 ++ l2) (hH : HUNG M0 g0 G p b l1 l2 M F R I g2 F2 I2) {post : Int32 → Sg → Prop}
    (kp : ∀ a1 a2, od G = a1 ++ a2 → tr_S (tr_put G.k p b (l1 ++ (G.ne + 1) :: l2)) 8193 0 = a1 ++ (G.ne + 1) :: a2 → 0 < a1.length → post (nI (a1.length - 1)) g2) : w_G_placeOf z mi mc ms post g2 M.gr (nI G.ne) := by
  have hP := hH.P
  have hg := hP.k.gr
  have hpl := od_le hw hp
  have hk2 := tr_put_ok (e := G.ne + 1) hw.tr hl (by omega) (by omega)
  have out := tr_put_out (e := G.ne + 1) hw.tr hl (by omega) (by omega)
  have v41 : aI g2 (M.f 41) G.ne = pv p := by rw [hP.a 41 (by decide), hH.fo 41 (by decide) (by decide) (by decide)]; exact n41
  have v45 : aI g2 (M.f 45) G.ne = bv b := by rw [hP.a 45 (by decide), hH.fo 45 (by decide) (by decide) (by decide)]; exact n45
  have hord : ∀ i x, (od G)[i + 1]? = some x → F2 50 i = nI (x - 1) := by rw [hH.fo 50 (by decide) (by decide) (by decide)]; exact hq.ord
  have a42 := hP.a 42 (by decide)
  have hrt : rT (tr_put G.k p b (l1 ++ (G.ne + 1) :: l2)) (aI g2 (M.f 42)) (aI g2 (M.f 43)) (aI g2 (M.f 44)) := by rw [a42, hP.a 43 (by decide), hP.a 44 (by decide)]; exact hH.rt
  have hrc : chI (aI g2 (M.f 42)) (fI g2 46 M.gr) (((tr_put G.k p b (l1 ++ (G.ne + 1) :: l2)) 0 true).map (· - 1)) := by rw [a42, hP.i]; exact hH.rc
  have hS : ∀ x, x ∈ G.k p b → tr_S (tr_put G.k p b (l1 ++ (G.ne + 1) :: l2)) 8193 x = tr_S G.k 8193 x := fun x hx => out x (hw.tr p b x hx).2 (tr_below hw.tr hx)
  have hput : tr_put G.k p b (l1 ++ (G.ne + 1) :: l2) p b = l1 ++ (G.ne + 1) :: l2 := tr_put_at _ _ _ _
  unfold w_G_placeOf
  (refine ⟨?_, ?_⟩; (focus (first | exact hasI_of (by assumption) (by decide) | exact hasR_of (by assumption) (by decide))); rintro _ rfl; try rw [hP.f.f 41 (by decide)])
  refine ⟨_, rfl, ?_⟩
  (refine ⟨G.ne, ⟨_, hP.k.f 41 (by decide), rfl, hlt, by decide⟩, ?_⟩; rintro _ rfl; try rw [v41])
  (refine ⟨?_, ?_⟩; (focus (first | exact hasI_of (by assumption) (by decide) | exact hasR_of (by assumption) (by decide))); rintro _ rfl; try rw [hP.f.f 45 (by decide)])
  refine ⟨_, rfl, ?_⟩
  (refine ⟨G.ne, ⟨_, hP.k.f 45 (by decide), rfl, hlt, by decide⟩, ?_⟩; rintro _ rfl; try rw [v45])
  cases b with
  | false =>
    refine ⟨fun h => absurd rfl h, fun _ => ?_⟩
    obtain ⟨u, v, o1, o2⟩ := pl_L hw hlt hp hl
    have hp2 : p ∈ tr_S (tr_put G.k p false (l1 ++ (G.ne + 1) :: l2)) 8193 0 := by rw [o2]; simp
    cases p with
    | zero => exact absurd (hpb rfl) (by decide)
    | succ e =>
      have hch := hrt e hp2 false
      rw [hput, List.map_append, List.map_cons] at hch
      have hnx := chI_mid _ _ hch
      rw [Nat.add_sub_cancel] at hnx
      (refine ⟨?_, ?_⟩; (focus (first | exact hasI_of (by assumption) (by decide) | exact hasR_of (by assumption) (by decide))); rintro _ rfl; try rw [hP.f.f 42 (by decide)])
      refine ⟨_, rfl, ?_⟩
      (refine ⟨G.ne, ⟨_, hP.k.f 42 (by decide), rfl, hlt, by decide⟩, ?_⟩; rintro _ rfl)
      cases l2 with
      | nil =>
        have hv : aI g2 (M.f 42) G.ne = -1 := hnx
        rw [hv]
        refine ⟨fun _ => ?_, fun h => absurd (by decide) h⟩
        rw [pvs]
        refine ⟨⟨_, _, by assumption, by decide⟩, 0, 0, by omega, by omega, ?_⟩
        exact t_rowOf hw hP hord (c := u ++ l1.flatMap (tr_S G.k 8193)) o1 (fun h => kp _ _ o1 o2 h)
      | cons y l =>
        have hv : aI g2 (M.f 42) G.ne = nI (y - 1) := hnx.1
        have hym : y ∈ G.k (e + 1) false := by rw [hl]; simp
        have hy := k_ev hw hym
        have hyo : (y - 1) + 1 ∈ tr_S (tr_put G.k (e + 1) false (l1 ++ (G.ne + 1) :: y :: l)) 8193 0 := by
          rw [Nat.sub_add_cancel hy.2]
          exact tr_kid (b := false) hk2 hp2 (by rw [hput]; simp)
        rw [hv]
        refine ⟨fun h => absurd h (nI_pos (by omega)), fun _ => ?_⟩
        (refine ⟨?_, ?_⟩; (focus (first | exact hasI_of (by assumption) (by decide) | exact hasR_of (by assumption) (by decide))); rintro _ rfl; try rw [hP.f.f 42 (by decide)])
        refine ⟨_, rfl, ?_⟩
        (refine ⟨G.ne, ⟨_, hP.k.f 42 (by decide), rfl, hlt, by decide⟩, ?_⟩; rintro _ rfl; try rw [hv])
        refine ⟨⟨_, _, by assumption, by decide⟩, 0, 0, by omega, by omega, ?_⟩
        refine t_firstOf hk2 hP.k hP.f hrt hyo (fun w q hq' => ?_)
        rw [Nat.sub_add_cancel hy.2, hS y hym] at hq'
        refine ⟨⟨_, _, by assumption, by decide⟩, 0, 0, by omega, by omega, ?_⟩
        refine t_rowOf hw hP hord (e := q) (c := u ++ l1.flatMap (tr_S G.k 8193)) (d := w ++ (l.flatMap (tr_S G.k 8193) ++ (e + 1) :: ((G.k (e + 1) true).flatMap (tr_S G.k 8193) ++ v))) ?_ (fun h => kp _ _ o1 o2 h)
        rw [o1, List.flatMap_cons, hq']; simp
  | true =>
    refine ⟨fun _ => ?_, fun h => absurd h (by decide)⟩
    obtain ⟨u, v, o1, o2⟩ := pl_R hw hlt hp hl
    have hp2 : p ∈ tr_S (tr_put G.k p true (l1 ++ (G.ne + 1) :: l2)) 8193 0 := by rw [o2]; simp
    refine ⟨⟨_, _, by assumption, by decide⟩, 0, 0, by omega, by omega, ?_⟩
    refine t_children (b := true) hP.k hP.f hrc hrt hp2 (by omega) (fun _ => rfl) (fun v4 hv4 _ => ?_)
    rw [hput] at hv4
    have fin : ∀ n kc ks, kc ≤ mc → ks ≤ ms → w_G_placeOf_58 z mi mc ms post (n + 1) kc ks g2 M.gr (nI G.ne) (pv p) (bL l1) (nI G.ne) := by
      intro n kc ks hkc hks
      unfold w_G_placeOf_58
      refine ⟨fun _ => ?_, fun h => absurd rfl h⟩
      rcases l1.eq_nil_or_concat with rfl | ⟨l, y, rfl⟩
      · rw [bL_nil]
        refine ⟨fun _ => ?_, fun h => absurd (by decide) h⟩
        cases p with
        | zero =>
          refine ⟨fun h => absurd h (by rw [pv0]; decide), fun _ => ?_⟩
          obtain ⟨t, ht⟩ : ∃ t, od G = 0 :: t := od_cons hw
          have hn := hw.nodup
          rw [ht] at hn
          have o3 : [] ++ 0 :: t = u ++ 0 :: (l2.flatMap (tr_S G.k 8193) ++ v) := by
            rw [List.nil_append, ← ht, o1, hw.tr0]; simp
          have hu := (mid_uq [] u t _ hn o3).1
          have := kp _ _ o1 o2 (by simp only [List.length_append, List.length_cons]; omega)
          rw [← hu, hw.tr0] at this
          exact this
        | succ e =>
          rw [pvs]
          refine ⟨fun _ => ?_, fun h => absurd (nI_pos' (by omega)) h⟩
          refine ⟨⟨_, _, by assumption, by decide⟩, 0, 0, by omega, by omega, ?_⟩
          refine t_rowOf hw hP hord (e := e) (c := u ++ (G.k (e + 1) false).flatMap (tr_S G.k 8193)) (d := l2.flatMap (tr_S G.k 8193) ++ v) (by rw [o1]; simp) (fun h => ?_)
          rw [nI_1]
          have := kp _ _ o1 o2 (by simp only [List.length_append, List.length_cons]; omega)
          have el : (u ++ ((G.k (e + 1) false).flatMap (tr_S G.k 8193) ++ (e + 1) :: ([] : List Nat).flatMap (tr_S G.k 8193))).length - 1 = (u ++ (G.k (e + 1) false).flatMap (tr_S G.k 8193)).length - 1 + 1 := by
            simp only [List.flatMap_nil, List.length_append, List.length_cons, List.length_nil] at h ⊢
            omega
          rw [el] at this
          exact this
      · rw [List.concat_eq_append] at *
        rw [bL_snoc]
        have hym : y ∈ G.k p true := by rw [hl]; simp
        have hy := k_ev hw hym
        have hyo : (y - 1) + 1 ∈ tr_S (tr_put G.k p true ((l ++ [y]) ++ (G.ne + 1) :: l2)) 8193 0 := by
          rw [Nat.sub_add_cancel hy.2]
          exact tr_kid (b := true) hk2 hp2 (by rw [hput]; simp)
        refine ⟨fun h => absurd h (nI_pos (by omega)), fun _ => ?_⟩
        refine ⟨⟨_, _, by assumption, by decide⟩, 0, 0, by omega, by omega, ?_⟩
        refine t_lastOf hk2 hP.k hP.f hrt hyo (fun w q hq' => ?_)
        rw [Nat.sub_add_cancel hy.2, hS y hym] at hq'
        refine ⟨⟨_, _, by assumption, by decide⟩, 0, 0, by omega, by omega, ?_⟩
        refine t_rowOf hw hP hord (e := q) (c := u ++ ((G.k p false).flatMap (tr_S G.k 8193) ++ p :: (l.flatMap (tr_S G.k 8193) ++ w))) (d := l2.flatMap (tr_S G.k 8193) ++ v) ?_ (fun h => ?_)
        · rw [o1, List.flatMap_append, List.flatMap_cons, List.flatMap_nil, hq']; simp
        · rw [nI_1]
          have := kp _ _ o1 o2 (by simp only [List.length_append, List.length_cons]; omega)
          have el : (u ++ ((G.k p false).flatMap (tr_S G.k 8193) ++ p :: (l ++ [y]).flatMap (tr_S G.k 8193))).length - 1 = (u ++ ((G.k p false).flatMap (tr_S G.k 8193) ++ p :: (l.flatMap (tr_S G.k 8193) ++ w))).length - 1 + 1 := by
            rw [List.flatMap_append, List.flatMap_cons, List.flatMap_nil, hq']
            simp only [List.length_append, List.length_cons, List.length_nil] at h ⊢
            omega
          rw [el] at this
          exact this
    have loop : ∀ (r d : List Nat), d ++ r = l1 → ∀ v5 kc ks, kc ≤ mc → ks ≤ ms → chI (aI g2 (M.f 42)) v5 ((r ++ (G.ne + 1) :: l2).map (· - 1)) → w_G_placeOf_58 z mi mc ms post (r.length + 1) kc ks g2 M.gr (nI G.ne) (pv p) (bL d) v5 := by
      intro r
      induction r with
      | nil =>
        intro d hd v5 kc ks hkc hks hv
        rw [List.append_nil] at hd
        subst hd
        have hv' : v5 = nI G.ne := hv.1
        subst hv'
        exact fin _ kc ks hkc hks
      | cons y r ih =>
        intro d hd v5 kc ks hkc hks hv
        have hv' : v5 = nI (y - 1) := hv.1
        subst hv'
        have hyl : y ∈ l1 := by rw [← hd]; simp
        have hy := k_ev hw (p := p) (b := true) (c := y) (by rw [hl]; exact List.mem_append_left _ hyl)
        show w_G_placeOf_58 z mi mc ms post ((r.length + 1) + 1) kc ks g2 M.gr (nI G.ne) (pv p) (bL d) (nI (y - 1))
        unfold w_G_placeOf_58
        refine ⟨fun h => absurd ((eI (by omega) (by omega)).mp h) (by omega), fun _ => ?_⟩
        (refine ⟨?_, ?_⟩; (focus (first | exact hasI_of (by assumption) (by decide) | exact hasR_of (by assumption) (by decide))); rintro _ rfl; try rw [hP.f.f 42 (by decide)])
        refine ⟨_, rfl, ?_⟩
        (refine ⟨y - 1, ⟨_, hP.k.f 42 (by decide), rfl, by show y - 1 < 8192; omega, by decide⟩, ?_⟩; rintro _ rfl)
        have := ih (d ++ [y]) (by rw [← hd]; simp) (aI g2 (M.f 42) (y - 1)) kc ks hkc hks hv.2
        rw [bL_snoc] at this
        exact this
    exact ⟨_, loop l1 [] rfl v4 0 0 (by omega) (by omega) hv4⟩
end MPL
