section CK
variable {z mi mc ms : Nat} {G : AG} {A : CA} {g : Sg} {V : Nat → Nat}
theorem od_le (hw : WF G) {p : Nat} (hp : p ∈ od G) : p ≤ G.ne := by
  rcases (hw.mem p).mp hp with h | ⟨e, h, h', -⟩ <;> omega
theorem k_new (hw : WF G) (b : Bool) : G.k (G.ne + 1) b = [] := by
  cases hk : G.k (G.ne + 1) b with
  | nil => rfl
  | cons w l' =>
    have := (hw.kin (G.ne + 1) b w (by rw [hk]; exact List.mem_cons_self)).1
    omega
theorem pl_R (hw : WF G) (hlt : G.ne < 8192) {p : Nat} (hp : p ∈ od G) {l1 l2 : List Nat} (hl : G.k p true = l1 ++ l2) :
    ∃ u v, od G = (u ++ ((G.k p false).flatMap (tr_S G.k 8193) ++ p :: l1.flatMap (tr_S G.k 8193))) ++ (l2.flatMap (tr_S G.k 8193) ++ v) ∧
      tr_S (tr_put G.k p true (l1 ++ (G.ne + 1) :: l2)) 8193 0 = (u ++ ((G.k p false).flatMap (tr_S G.k 8193) ++ p :: l1.flatMap (tr_S G.k 8193))) ++ (G.ne + 1) :: (l2.flatMap (tr_S G.k 8193) ++ v) :=
  tr_insR hw.tr hl (by have := od_le hw hp; omega) (by omega) (k_new hw) hw.nodup hp
theorem pl_L (hw : WF G) (hlt : G.ne < 8192) {p : Nat} (hp : p ∈ od G) {l1 l2 : List Nat} (hl : G.k p false = l1 ++ l2) :
    ∃ u v, od G = (u ++ l1.flatMap (tr_S G.k 8193)) ++ (l2.flatMap (tr_S G.k 8193) ++ p :: ((G.k p true).flatMap (tr_S G.k 8193) ++ v)) ∧
      tr_S (tr_put G.k p false (l1 ++ (G.ne + 1) :: l2)) 8193 0 = (u ++ l1.flatMap (tr_S G.k 8193)) ++ (G.ne + 1) :: (l2.flatMap (tr_S G.k 8193) ++ p :: ((G.k p true).flatMap (tr_S G.k 8193) ++ v)) :=
  tr_insL hw.tr hl (by have := od_le hw hp; omega) (by omega) (k_new hw) hw.nodup hp
theorem mem_ins {E : Nat} {a b S S2 : List Nat} (h1 : S = a ++ b) (h2 : S2 = a ++ E :: b) : ∀ q, q ∈ S2 → q = E ∨ q ∈ S := by
  intro q hq
  rw [h2] at hq
  rw [h1]
  rcases List.mem_append.mp hq with h | h
  · exact Or.inr (List.mem_append_left _ h)
  · rcases List.mem_cons.mp h with h | h
    · exact Or.inl h
    · exact Or.inr (List.mem_append_right _ h)
theorem t_hangRight (hw : WF G) (hR : RC z G A g) {a s : Nat} {N2 : Nat → Nat} (hF : FRE G A g a s N2) {p : Nat} (hp : p ∈ od G) {l1 l2 : List Nat} (hl : G.k p true = l1 ++ l2) (h1 : ∀ y ∈ l1, lf G s (y - 1)) (h2 : ∀ y ∈ l2, ¬ lf G s (y - 1)) {post : Sg → Prop}
    (k : ∀ g2, ob g g2 → rS (tr_put G.k p true (l1 ++ (G.ne + 1) :: l2)) N2 (fun b => cond b (fR g2 15) (fR g2 14)) (fR g2 16) → rO (tr_put G.k p true (l1 ++ (G.ne + 1) :: l2)) N2 (fR g2 17) (fR g2 18) → post g2) : w_N_hangRight z mi mc ms post g (nd A p) (some a) := by
  have hkp := hR.kN hw hp
  have hka := hF.ha
  have hlt := hF.lt
  obtain ⟨u, v, o1, o2⟩ := pl_R hw hlt hp hl
  have hmem := mem_ins o1 o2
  have hch := hR.s p hp true
  rw [hl] at hch
  unfold w_N_hangRight
  (refine ⟨?_, ?_⟩; (focus (first | exact hasI_of (by assumption) (by decide) | exact hasR_of (by assumption) (by decide))); rintro _ rfl)
  refine ⟨_, rfl, ?_⟩
  refine ⟨⟨_, _, by assumption, by decide⟩, 0, 0, by omega, by omega, ?_⟩
  refine t_lastSmaller hw hR hF.s hka hF.a7 hF.a8 (fun y hy => od_kid1 hw hp (by rw [hl]; exact hy)) h1 h2 hch (fun hn => ⟨fun _ => ?_, (fun _ h => nomatch h)⟩) (fun l y hly => ⟨(fun h => nomatch h), ?_⟩)
  · subst hn
    have d1 : od G = (u ++ (G.k p false).flatMap (tr_S G.k 8193)) ++ p :: (l2.flatMap (tr_S G.k 8193) ++ v) := by rw [o1]; simp
    have d2 : tr_S (tr_put G.k p true ((G.ne + 1) :: l2)) 8193 0 = (u ++ (G.k p false).flatMap (tr_S G.k 8193)) ++ p :: (G.ne + 1) :: (l2.flatMap (tr_S G.k 8193) ++ v) := by
      rw [List.nil_append] at o2
      rw [o2]; simp
    refine ⟨⟨_, _, by assumption, by decide⟩, 0, 0, by omega, by omega, ?_⟩
    refine t_putBehind hkp hka (fun e => hF.fr p hp e.symm) (o_next hw hR hF d1) (fun g2 ho hs h18 h17 => ?_)
    have hT2 := ho.t
    refine ⟨hasR_of (by rw [hT2]; exact hkp) (by decide), ?_⟩
    rintro _ rfl
    refine ⟨hasR_of (by rw [hT2]; exact hka) (by decide), ?_⟩
    rintro _ rfl
    refine ⟨hasR_of (by show hT g2 _ = _; rw [hT2]; exact hkp) (by decide), ?_⟩
    rintro _ rfl
    refine k _ ((ho.trans (ob.w _ _ _ (by decide) (by decide))).trans (ob.w _ _ _ (by decide) (by decide))) ?_ ?_
    · refine s_head hw hR hF hl hmem hp (fun c q => ?_) ?_
      · cases c with
        | false =>
          show fR (wR _ 15 _ _) 14 q = _
          rw [fR_wR_ne _ _ _ (by decide), fR_wR_ne _ _ _ (by decide), hs 14 (by decide) (by decide)]
          simp
        | true =>
          show fR (wR _ 15 _ _) 15 q = _
          rw [fR_wR, fR_wR_ne _ _ _ (by decide), hs 15 (by decide) (by decide)]
          simp
      · rw [fR_wR_ne _ _ _ (by decide), fR_wR, hs 16 (by decide) (by decide), hs 15 (by decide) (by decide)]
        rfl
    · refine o_ins hw hR hF d1 d2 ?_ ?_
      · rw [fR_wR_ne _ _ _ (by decide), fR_wR_ne _ _ _ (by decide), h18]
      · rw [fR_wR_ne _ _ _ (by decide), fR_wR_ne _ _ _ (by decide), h17]
  · rintro _ ⟨⟩
    subst hly
    have hym : y ∈ G.k p true := by rw [hl]; exact List.mem_append_left _ (List.mem_append_right _ List.mem_cons_self)
    have hyo := od_kid hw hp hym
    have hky := hR.kN hw hyo
    refine ⟨⟨_, _, by assumption, by decide⟩, 0, 0, by omega, by omega, ?_⟩
    refine t_takeNext hw hR hF hyo (fun w q _ _ g2 hq _ ho h14 h15 h16 h18 h17 => ?_)
    refine k g2 ho ?_ ?_
    · exact s_mid hw hR hF hl hmem hp (by rw [h14, h15]) h16
    · refine o_ins (u := u ++ ((G.k p false).flatMap (tr_S G.k 8193) ++ p :: (l.flatMap (tr_S G.k 8193) ++ w))) (v := l2.flatMap (tr_S G.k 8193) ++ v) (x := q) hw hR hF ?_ ?_ h18 h17
      · rw [o1, List.flatMap_append, List.flatMap_cons, hq]; simp
      · rw [o2, List.flatMap_append, List.flatMap_cons, hq]; simp
theorem t_hangLeft (hw : WF G) (hR : RC z G A g) {a s : Nat} {N2 : Nat → Nat} (hF : FRE G A g a s N2) {p : Nat} (hp : p ∈ od G) (hp0 : p ≠ 0) {l1 l2 : List Nat} (hl : G.k p false = l1 ++ l2) (h1 : ∀ y ∈ l1, lf G s (y - 1)) (h2 : ∀ y ∈ l2, ¬ lf G s (y - 1)) {post : Sg → Prop}
    (k : ∀ g2, ob g g2 → rS (tr_put G.k p false (l1 ++ (G.ne + 1) :: l2)) N2 (fun b => cond b (fR g2 15) (fR g2 14)) (fR g2 16) → rO (tr_put G.k p false (l1 ++ (G.ne + 1) :: l2)) N2 (fR g2 17) (fR g2 18) → post g2) : w_N_hangLeft z mi mc ms post g (nd A p) (some a) := by
  have hkp := hR.kN hw hp
  have hka := hF.ha
  have hlt := hF.lt
  obtain ⟨u, v, o1, o2⟩ := pl_L hw hlt hp hl
  have hmem := mem_ins o1 o2
  have hch := hR.s p hp false
  rw [hl] at hch
  unfold w_N_hangLeft
  (refine ⟨?_, ?_⟩; (focus (first | exact hasI_of (by assumption) (by decide) | exact hasR_of (by assumption) (by decide))); rintro _ rfl)
  refine ⟨_, rfl, ?_⟩
  refine ⟨⟨_, _, by assumption, by decide⟩, 0, 0, by omega, by omega, ?_⟩
  refine t_lastSmaller hw hR hF.s hka hF.a7 hF.a8 (fun y hy => od_kid1 hw hp (by rw [hl]; exact hy)) h1 h2 hch (fun hn => ⟨fun _ => ?_, (fun _ h => nomatch h)⟩) (fun l y hly => ⟨(fun h => nomatch h), ?_⟩)
  · subst hn
    have hl' : G.k p false = l2 := hl
    have hpM : p < 8193 := by have := od_le hw hp; omega
    refine ⟨⟨_, _, by assumption, by decide⟩, 0, 0, by omega, by omega, ?_⟩
    refine t_firstBelow hw hR hp (fun w y0 hy0 => ?_)
    have hS : tr_S G.k 8193 p ++ v = l2.flatMap (tr_S G.k 8193) ++ p :: ((G.k p true).flatMap (tr_S G.k 8193) ++ v) := by
      rw [tr_unf hw.tr hpM, hl']; simp
    have hyo : y0 ∈ tr_S G.k 8193 p := by rw [hy0]; exact List.mem_cons_self
    have hyp := (tr_ge hw.tr p hpM y0 hyo).1
    have d0 : od G = u ++ y0 :: (w ++ v) := by
      rw [o1, ← hS, hy0]; simp
    have d0' : tr_S (tr_put G.k p false ((G.ne + 1) :: l2)) 8193 0 = u ++ (G.ne + 1) :: y0 :: (w ++ v) := by
      rw [List.nil_append] at o2
      rw [o2, ← hS, hy0]; simp
    have hyo' : y0 ∈ od G := od_mid d0
    have hky := hR.kN hw hyo'
    obtain ⟨u', x, hu⟩ : ∃ u' x, u = u' ++ [x] := by
      rcases List.eq_nil_or_concat u with h | ⟨u', x, h⟩
      · exfalso
        obtain ⟨t, ht⟩ := od_cons hw
        rw [h, List.nil_append, ht, List.cons.injEq] at d0
        omega
      · exact ⟨u', x, by rw [h, List.concat_eq_append]⟩
    have d1 : od G = u' ++ x :: (y0 :: (w ++ v)) := by rw [d0, hu]; simp
    have d2 : tr_S (tr_put G.k p false ((G.ne + 1) :: l2)) 8193 0 = u' ++ x :: (G.ne + 1) :: (y0 :: (w ++ v)) := by rw [d0', hu]; simp
    have hxo : x ∈ od G := od_mid d1
    have hkx := hR.kN hw hxo
    have hprev : fR g 17 (nd A y0) = some (nd A x) := by
      have hp' : prv (fR g 17) ((od G).map (nd A)) := hR.o.2
      rw [d1, List.map_append, List.map_cons, List.map_cons] at hp'
      have key : ∀ (l : List Nat) (X Y : Nat) (m : List Nat), prv (fR g 17) (l ++ X :: Y :: m) → fR g 17 Y = some X := by
        intro l
        induction l with
        | nil => intro X Y m h; exact h.1 Y rfl
        | cons q l ih => intro X Y m h; exact ih X Y m h.2
      exact key _ _ _ _ hp'
    refine ⟨_, rfl, ?_⟩
    refine ⟨⟨_, _, by assumption, by decide⟩, 0, 0, by omega, by omega, ?_⟩
    unfold w_N_putBefore
    (refine ⟨?_, ?_⟩; (focus (first | exact hasI_of (by assumption) (by decide) | exact hasR_of (by assumption) (by decide))); rintro _ rfl; try rw [hprev])
    refine ⟨(fun h => nomatch h), fun _ _ => ?_⟩
    (refine ⟨?_, ?_⟩; (focus (first | exact hasI_of (by assumption) (by decide) | exact hasR_of (by assumption) (by decide))); rintro _ rfl; try rw [hprev])
    refine ⟨_, rfl, ?_⟩
    refine ⟨⟨_, _, by assumption, by decide⟩, 0, 0, by omega, by omega, ?_⟩
    refine t_putBehind hkx hka (fun e => hF.fr x hxo e.symm) (o_next hw hR hF d1) (fun g2 ho hs h18 h17 => ?_)
    have hT2 := ho.t
    refine ⟨hasR_of (by rw [hT2]; exact hkp) (by decide), ?_⟩
    rintro _ rfl
    refine ⟨hasR_of (by rw [hT2]; exact hka) (by decide), ?_⟩
    rintro _ rfl
    refine ⟨hasR_of (by show hT g2 _ = _; rw [hT2]; exact hkp) (by decide), ?_⟩
    rintro _ rfl
    refine k _ ((ho.trans (ob.w _ _ _ (by decide) (by decide))).trans (ob.w _ _ _ (by decide) (by decide))) ?_ ?_
    · refine s_head hw hR hF hl hmem hp (fun c q => ?_) ?_
      · cases c with
        | false =>
          show fR (wR _ 14 _ _) 14 q = _
          rw [fR_wR, fR_wR_ne _ _ _ (by decide), hs 14 (by decide) (by decide)]
          simp
        | true =>
          show fR (wR _ 14 _ _) 15 q = _
          rw [fR_wR_ne _ _ _ (by decide), fR_wR_ne _ _ _ (by decide), hs 15 (by decide) (by decide)]
          simp
      · rw [fR_wR_ne _ _ _ (by decide), fR_wR, hs 16 (by decide) (by decide), hs 14 (by decide) (by decide)]
        rfl
    · refine o_ins hw hR hF d1 d2 ?_ ?_
      · rw [fR_wR_ne _ _ _ (by decide), fR_wR_ne _ _ _ (by decide), h18]
      · rw [fR_wR_ne _ _ _ (by decide), fR_wR_ne _ _ _ (by decide), h17]
  · rintro _ ⟨⟩
    subst hly
    have hym : y ∈ G.k p false := by rw [hl]; exact List.mem_append_left _ (List.mem_append_right _ List.mem_cons_self)
    have hyo := od_kid hw hp hym
    have hky := hR.kN hw hyo
    refine ⟨⟨_, _, by assumption, by decide⟩, 0, 0, by omega, by omega, ?_⟩
    refine t_takeNext hw hR hF hyo (fun w q _ _ g2 hq _ ho h14 h15 h16 h18 h17 => ?_)
    refine k g2 ho ?_ ?_
    · exact s_mid hw hR hF hl hmem hp (by rw [h14, h15]) h16
    · refine o_ins (u := u ++ (l.flatMap (tr_S G.k 8193) ++ w)) (v := l2.flatMap (tr_S G.k 8193) ++ p :: ((G.k p true).flatMap (tr_S G.k 8193) ++ v)) (x := q) hw hR hF ?_ ?_ h18 h17
      · rw [o1, List.flatMap_append, List.flatMap_cons, hq]; simp
      · rw [o2, List.flatMap_append, List.flatMap_cons, hq]; simp
def hg (G : AG) (V : Nat → Nat) (B : Nat) (p : Nat) (b : Bool) : Prop :=
  ((∀ c ∈ G.k B true, ¬ kn G V (c - 1)) ∧ p = B ∧ b = true) ∨ ((∃ c ∈ G.k B true, kn G V (c - 1)) ∧ b = false ∧ ∃ u v1 v2, od G = u ++ B :: (v1 ++ p :: v2) ∧ (∀ w ∈ v1, ¬ kn G V (w - 1)) ∧ kn G V (p - 1))
theorem hg_next (hw : WF G) {B c : Nat} {u v : List Nat} (hod : od G = u ++ B :: v) (hc : c ∈ G.k B true) : c ∈ v := by
  have hB := od_mid hod
  have hBM : B < 8193 := by have := hw.tr B true c hc; omega
  obtain ⟨u', v', h⟩ := tr_part hw.tr B 0 (by decide) hB
  rw [tr_unf hw.tr hBM] at h
  have h2 : od G = (u' ++ (G.k B false).flatMap (tr_S G.k 8193)) ++ B :: ((G.k B true).flatMap (tr_S G.k 8193) ++ v') := by
    unfold od; rw [h]; simp
  have hn := hw.nodup
  have key : ∀ (u u' v v' : List Nat), (u ++ B :: v).Nodup → u ++ B :: v = u' ++ B :: v' → v = v' := by
    intro u
    induction u with
    | nil =>
      intro u' v v' hn h
      cases u' with
      | nil => simpa using h
      | cons a u' =>
        rw [List.nil_append, List.cons_append, List.cons.injEq] at h
        exfalso
        have := (List.nodup_cons.mp hn).1
        rw [h.2] at this
        exact this (List.mem_append_right _ List.mem_cons_self)
    | cons a u ih =>
      intro u' v v' hn h
      cases u' with
      | nil =>
        rw [List.nil_append, List.cons_append, List.cons.injEq] at h
        exfalso
        have := (List.nodup_cons.mp hn).1
        rw [h.1] at this
        exact this (List.mem_append_right _ List.mem_cons_self)
      | cons a' u' =>
        rw [List.cons_append, List.cons_append, List.cons.injEq] at h
        exact ih u' v v' (List.nodup_cons.mp hn).2 h.2
  rw [hod] at hn h2
  rw [key _ _ _ _ hn h2]
  exact List.mem_append_left _ (List.mem_flatMap.mpr ⟨c, hc, tr_self hw.tr (hw.tr B true c hc).2⟩)
theorem t_hang (hw : WF G) (hR : RC z G A g) (hv : RCv A V g) (hb : ∀ s, s < 16 → V s ≤ 8192) {a s : Nat} {N2 : Nat → Nat} (hF : FRE G A g a s N2) {B : Nat} (hB : B ∈ od G) {post : Sg → Prop}
    (k : ∀ p b l1 l2, hg G V B p b → p ∈ od G → G.k p b = l1 ++ l2 → (∀ y ∈ l1, lf G s (y - 1)) → (∀ y ∈ l2, ¬ lf G s (y - 1)) → ∀ g2, ob g g2 → rS (tr_put G.k p b (l1 ++ (G.ne + 1) :: l2)) N2 (fun b => cond b (fR g2 15) (fR g2 14)) (fR g2 16) → rO (tr_put G.k p b (l1 ++ (G.ne + 1) :: l2)) N2 (fR g2 17) (fR g2 18) → post g2)
    (hsp : ∀ p b, p ∈ od G → ∃ l1 l2, G.k p b = l1 ++ l2 ∧ (∀ y ∈ l1, lf G s (y - 1)) ∧ (∀ y ∈ l2, ¬ lf G s (y - 1))) : w_C_hang z mi mc ms post g A.c (some a) (some (nd A B)) := by
  have h1 := hR.k.c
  have hkB := hR.kN hw hB
  obtain ⟨u, v, hod⟩ := List.append_of_mem hB
  unfold w_C_hang
  (refine ⟨?_, ?_⟩; (focus (first | exact hasI_of (by assumption) (by decide) | exact hasR_of (by assumption) (by decide))); rintro _ rfl; try rw [hR.f.vw])
  refine ⟨_, rfl, ?_⟩
  refine ⟨⟨_, _, by assumption, by decide⟩, 0, 0, by omega, by omega, ?_⟩
  refine t_hasRightIn hw hR hv hb hB (fun hy => ⟨fun h => absurd h (by decide), fun _ => ?_⟩) (fun hy => ⟨fun _ => ?_, fun h => absurd rfl h⟩)
  · refine ⟨⟨_, _, by assumption, by decide⟩, 0, 0, by omega, by omega, ?_⟩
    refine t_nextKnown hw hR hv hb hod (fun hno => ?_) (fun v1 y v2 e1 e2 e3 => ?_)
    · obtain ⟨c, hc, hkc⟩ := hy
      exact absurd hkc (hno c (hg_next hw hod hc))
    · have hyo : y ∈ od G := by rw [hod, e1]; simp
      have hy0 : y ≠ 0 := by
        obtain ⟨e, he, -⟩ := od_pos hw hod y (by rw [e1]; simp)
        omega
      have hky := hR.kN hw hyo
      obtain ⟨l1, l2, q1, q2, q3⟩ := hsp y false hyo
      unfold w_C_hang_20
      refine ⟨(fun h => nomatch h), ?_⟩
      rintro _ ⟨⟩
      refine ⟨⟨_, _, by assumption, by decide⟩, 0, 0, by omega, by omega, ?_⟩
      exact t_hangLeft hw hR hF hyo hy0 q1 q2 q3 (fun g2 => k y false l1 l2 (Or.inr ⟨hy, rfl, u, v1, v2, by rw [hod, e1], e2, e3⟩) hyo q1 q2 q3 g2)
  · obtain ⟨l1, l2, q1, q2, q3⟩ := hsp B true hB
    unfold w_C_hang_20
    refine ⟨fun _ => ?_, (fun _ h => nomatch h)⟩
    refine ⟨_, rfl, ?_⟩
    refine ⟨⟨_, _, by assumption, by decide⟩, 0, 0, by omega, by omega, ?_⟩
    exact t_hangRight hw hR hF hB q1 q2 q3 (fun g2 => k B true l1 l2 (Or.inl ⟨hy, rfl, rfl⟩) hB q1 q2 q3 g2)
end CK
