section CJ
variable {z mi mc ms : Nat} {G : AG} {A : CA} {g : Sg} {V : Nat → Nat}
theorem nd_inj (hw : WF G) (hR : RC z G A g) {x y : Nat} (hx : x ∈ od G) (hy : y ∈ od G) (h : nd A x = nd A y) : x = y := by
  rcases (hw.mem x).mp hx with rfl | ⟨e, rfl, he, -⟩
  · rcases (hw.mem y).mp hy with rfl | ⟨e, rfl, he, -⟩
    · rfl
    · exact absurd h.symm (hR.k.ea_rt e he)
  · rcases (hw.mem y).mp hy with rfl | ⟨e', rfl, he', -⟩
    · exact absurd h (hR.k.ea_rt e he)
    · rw [hR.k.ea_inj e e' he he' h]
def FRE (G : AG) (A : CA) (g : Sg) (a s : Nat) (N2 : Nat → Nat) : Prop := (hT g a = some (3, 13)) ∧ (fR g 7 a = some (A.ga s)) ∧ (fI g 8 a = nI (G.ct s)) ∧ (fR g 14 a = none) ∧ (fR g 15 a = none) ∧ (∀ x, x ∈ od G → nd A x ≠ a) ∧ (∀ x, x ∈ od G → N2 x = nd A x) ∧ (N2 (G.ne + 1) = a) ∧ (s < G.na) ∧ (G.ne < 8192)
theorem FRE.ha {G : AG} {A : CA} {g : Sg} {a s : Nat} {N2 : Nat → Nat} (h : FRE G A g a s N2) : hT g a = some (3, 13) := h.1
theorem FRE.a7 {G : AG} {A : CA} {g : Sg} {a s : Nat} {N2 : Nat → Nat} (h : FRE G A g a s N2) : fR g 7 a = some (A.ga s) := h.2.1
theorem FRE.a8 {G : AG} {A : CA} {g : Sg} {a s : Nat} {N2 : Nat → Nat} (h : FRE G A g a s N2) : fI g 8 a = nI (G.ct s) := h.2.2.1
theorem FRE.a14 {G : AG} {A : CA} {g : Sg} {a s : Nat} {N2 : Nat → Nat} (h : FRE G A g a s N2) : fR g 14 a = none := h.2.2.2.1
theorem FRE.a15 {G : AG} {A : CA} {g : Sg} {a s : Nat} {N2 : Nat → Nat} (h : FRE G A g a s N2) : fR g 15 a = none := h.2.2.2.2.1
theorem FRE.fr {G : AG} {A : CA} {g : Sg} {a s : Nat} {N2 : Nat → Nat} (h : FRE G A g a s N2) : ∀ x, x ∈ od G → nd A x ≠ a := h.2.2.2.2.2.1
theorem FRE.nn {G : AG} {A : CA} {g : Sg} {a s : Nat} {N2 : Nat → Nat} (h : FRE G A g a s N2) : ∀ x, x ∈ od G → N2 x = nd A x := h.2.2.2.2.2.2.1
theorem FRE.ne {G : AG} {A : CA} {g : Sg} {a s : Nat} {N2 : Nat → Nat} (h : FRE G A g a s N2) : N2 (G.ne + 1) = a := h.2.2.2.2.2.2.2.1
theorem FRE.s {G : AG} {A : CA} {g : Sg} {a s : Nat} {N2 : Nat → Nat} (h : FRE G A g a s N2) : s < G.na := h.2.2.2.2.2.2.2.2.1
theorem FRE.lt {G : AG} {A : CA} {g : Sg} {a s : Nat} {N2 : Nat → Nat} (h : FRE G A g a s N2) : G.ne < 8192 := h.2.2.2.2.2.2.2.2.2
theorem FRE.mk {G : AG} {A : CA} {g : Sg} {a s : Nat} {N2 : Nat → Nat} (h0 : hT g a = some (3, 13)) (h1 : fR g 7 a = some (A.ga s)) (h2 : fI g 8 a = nI (G.ct s)) (h3 : fR g 14 a = none) (h4 : fR g 15 a = none) (h5 : ∀ x, x ∈ od G → nd A x ≠ a) (h6 : ∀ x, x ∈ od G → N2 x = nd A x) (h7 : N2 (G.ne + 1) = a) (h8 : s < G.na) (h9 : G.ne < 8192) : FRE G A g a s N2 := ⟨h0, h1, h2, h3, h4, h5, h6, h7, h8, h9⟩
theorem map_nd {N N2 : Nat → Nat} {l : List Nat} (h : ∀ x ∈ l, N2 x = N x) : l.map N2 = l.map N := List.map_congr_left h
theorem chn_head {f : Nat → Option Nat} {o : Option Nat} {l : List Nat} (h : chn f o l) : o = l.head? := by
  cases l with
  | nil => exact h
  | cons x l => exact h.1
theorem nodup_nd (hw : WF G) (hR : RC z G A g) : ((od G).map (nd A)).Nodup := by
  have key : ∀ l : List Nat, (∀ x ∈ l, x ∈ od G) → l.Nodup → (l.map (nd A)).Nodup := by
    intro l
    induction l with
    | nil => intro _ _; exact List.nodup_nil
    | cons x l ih =>
      intro hm hn
      rw [List.map_cons, List.nodup_cons]
      have hn' := List.nodup_cons.mp hn
      refine ⟨fun h => ?_, ih (fun y hy => hm y (List.mem_cons_of_mem _ hy)) hn'.2⟩
      obtain ⟨y, hy, e⟩ := List.mem_map.mp h
      have := nd_inj hw hR (hm y (List.mem_cons_of_mem _ hy)) (hm x List.mem_cons_self) e
      exact hn'.1 (this ▸ hy)
  exact key _ (fun x h => h) hw.nodup
theorem o_ins (hw : WF G) (hR : RC z G A g) {a s : Nat} {N2 : Nat → Nat} (hF : FRE G A g a s N2) {k2 : Nat → Bool → List Nat} {u v : List Nat} {x : Nat} (hod : od G = u ++ x :: v) (hod2 : tr_S k2 8193 0 = u ++ x :: (G.ne + 1) :: v) {f17 f18 : Nat → Option Nat}
    (h18 : f18 = fun q => if q = nd A x then some a else if q = a then fR g 18 (nd A x) else fR g 18 q) (h17 : f17 = fun q => if fR g 18 (nd A x) = some q then some a else if q = a then some (nd A x) else fR g 17 q) : rO k2 N2 f17 f18 := by
  have hc : chn (fR g 18) (some (nd A 0)) ((od G).map (nd A)) := hR.o.1
  have hp : prv (fR g 17) ((od G).map (nd A)) := hR.o.2
  have hnd := nodup_nd hw hR
  have h0 : (0 : Nat) ∈ od G := (hw.mem 0).mpr (Or.inl rfl)
  have hm : ∀ y ∈ u ++ x :: v, y ∈ od G := fun y hy => by rw [hod]; exact hy
  have hmap : (u ++ x :: (G.ne + 1) :: v).map N2 = u.map (nd A) ++ nd A x :: a :: v.map (nd A) := by
    rw [List.map_append, List.map_cons, List.map_cons, hF.ne, hF.nn x (hm x (List.mem_append_right _ List.mem_cons_self)), map_nd (fun y hy => hF.nn y (hm y (List.mem_append_left _ hy))), map_nd (fun y hy => hF.nn y (hm y (List.mem_append_right _ (List.mem_cons_of_mem _ hy))))]
  have ha : a ∉ (od G).map (nd A) := fun h => by
    obtain ⟨y, hy, e⟩ := List.mem_map.mp h
    exact hF.fr y hy e
  rw [hod, List.map_append, List.map_cons] at hc hp hnd ha
  have hh : fR g 18 (nd A x) = (v.map (nd A)).head? := chn_head (chn_split _ _ hc)
  unfold rO
  rw [hod2, hmap, hF.nn 0 h0]
  refine ⟨chn_ins h18 _ _ hnd ha hc, prv_ins ?_ (fun y hy => ?_) (fun y h1 h2 => ?_) _ hnd ha hp⟩
  · rw [h17]
    have : ¬ fR g 18 (nd A x) = some a := fun e => by
      rw [hh] at e
      exact ha (List.mem_append_right _ (List.mem_cons_of_mem _ (List.mem_of_mem_head? e)))
    simp [this]
  · rw [h17]
    simp [hh, hy]
  · rw [h17]
    have : ¬ fR g 18 (nd A x) = some y := fun e => h2 (by rw [← hh]; exact e)
    simp [this, h1]
theorem s_other (hw : WF G) (hR : RC z G A g) {a s : Nat} {N2 : Nat → Nat} (hF : FRE G A g a s N2) {p : Nat} {b : Bool} {l : List Nat} {F2 : Bool → Nat → Option Nat} {f16 : Nat → Option Nat} (hod2 : ∀ q, q ∈ tr_S (tr_put G.k p b l) 8193 0 → q = G.ne + 1 ∨ q ∈ od G)
    (hp : p ∈ od G) (hF2 : ∀ c q, ¬ (q = nd A p ∧ c = b) → F2 c q = (cond c (fR g 15) (fR g 14)) q) (h16 : ∀ q c w, q ∈ od G → w ∈ G.k q c → ¬ (q = p ∧ c = b) → f16 (nd A w) = fR g 16 (nd A w)) (hat : chn f16 (F2 b (nd A p)) (l.map N2)) : rS (tr_put G.k p b l) N2 F2 f16 := by
  intro q hq c
  rcases hod2 q hq with rfl | hqo
  · have hne : G.ne + 1 ≠ p := fun e => by
      rcases (hw.mem p).mp hp with h | ⟨e', h, h', -⟩
      · omega
      · omega
    rw [tr_put_n hne, hF.ne, hF2 c a (fun h => hF.fr p hp h.1.symm)]
    have hnil : G.k (G.ne + 1) c = [] := by
      cases hk : G.k (G.ne + 1) c with
      | nil => rfl
      | cons w l' =>
        have := (hw.kin (G.ne + 1) c w (by rw [hk]; exact List.mem_cons_self)).1
        omega
    rw [hnil]
    cases c with
    | false => exact hF.a14
    | true => exact hF.a15
  · by_cases h : q = p ∧ c = b
    · obtain ⟨rfl, rfl⟩ := h
      rw [tr_put_at, hF.nn q hqo]
      exact hat
    · have hk : tr_put G.k p b l q c = G.k q c := by simp [tr_put, h]
      have hmap : (G.k q c).map N2 = (G.k q c).map (nd A) := map_nd (fun w hw' => hF.nn w (od_kid hw hqo hw'))
      rw [hk, hF.nn q hqo, hmap, hF2 c _ (fun h' => h ⟨nd_inj hw hR hqo hp h'.1, h'.2⟩)]
      refine chn_congr _ _ (fun w hw' => ?_) (hR.s q hqo c)
      obtain ⟨w', hw'', rfl⟩ := List.mem_map.mp hw'
      exact h16 q c w' hqo hw'' h
theorem s_mid (hw : WF G) (hR : RC z G A g) {a s : Nat} {N2 : Nat → Nat} (hF : FRE G A g a s N2) {p y : Nat} {b : Bool} {l l2 : List Nat} (hl : G.k p b = (l ++ [y]) ++ l2) (hod2 : ∀ q, q ∈ tr_S (tr_put G.k p b ((l ++ [y]) ++ (G.ne + 1) :: l2)) 8193 0 → q = G.ne + 1 ∨ q ∈ od G)
    (hp : p ∈ od G) {F2 : Bool → Nat → Option Nat} {f16 : Nat → Option Nat} (hF2 : F2 = fun c => cond c (fR g 15) (fR g 14)) (h16 : f16 = fun r => if r = nd A y then some a else if r = a then fR g 16 (nd A y) else fR g 16 r) : rS (tr_put G.k p b ((l ++ [y]) ++ (G.ne + 1) :: l2)) N2 F2 f16 := by
  have hym : y ∈ G.k p b := by rw [hl]; exact List.mem_append_left _ (List.mem_append_right _ List.mem_cons_self)
  refine s_other hw hR hF hod2 hp (fun c q _ => by rw [hF2]) (fun q c w hq hwm hne => ?_) ?_
  · rw [h16]
    have h1 : nd A w ≠ nd A y := fun e => by
      have := nd_inj hw hR (od_kid hw hq hwm) (od_kid hw hp hym) e
      subst this
      exact hne (hw.uq _ _ _ _ _ hwm hym)
    have h2 := hF.fr w (od_kid hw hq hwm)
    simp [h1, h2]
  · have hc := hR.s p hp b
    have hmm : ∀ w ∈ (l ++ [y]) ++ l2, w ∈ od G := fun w h => od_kid hw hp (by rw [hl]; exact h)
    have hmap : ((l ++ [y]) ++ (G.ne + 1) :: l2).map N2 = l.map (nd A) ++ nd A y :: a :: l2.map (nd A) := by
      rw [List.map_append, List.map_append, List.map_cons, List.map_cons, List.map_nil, hF.ne, hF.nn y (hmm y (List.mem_append_left _ (List.mem_append_right _ List.mem_cons_self))), map_nd (fun w h => hF.nn w (hmm w (List.mem_append_left _ (List.mem_append_left _ h)))), map_nd (fun w h => hF.nn w (hmm w (List.mem_append_right _ h)))]
      simp
    have hmap2 : (G.k p b).map (nd A) = l.map (nd A) ++ nd A y :: l2.map (nd A) := by rw [hl]; simp
    rw [hmap, hF2]
    rw [hmap2] at hc
    have hnk : ((G.k p b).map (nd A)).Nodup := by
      have hs := hw.srt p b
      have hn : (G.k p b).Nodup := hs.imp (fun {u v} h e => by
        rw [e] at h
        rcases h with h | ⟨-, h⟩ <;> omega)
      have key : ∀ l : List Nat, (∀ x ∈ l, x ∈ od G) → l.Nodup → (l.map (nd A)).Nodup := by
        intro l
        induction l with
        | nil => intro _ _; exact List.nodup_nil
        | cons x l ih =>
          intro hm hn
          rw [List.map_cons, List.nodup_cons]
          have hn' := List.nodup_cons.mp hn
          refine ⟨fun h => ?_, ih (fun y hy => hm y (List.mem_cons_of_mem _ hy)) hn'.2⟩
          obtain ⟨y, hy, e⟩ := List.mem_map.mp h
          have := nd_inj hw hR (hm y (List.mem_cons_of_mem _ hy)) (hm x List.mem_cons_self) e
          exact hn'.1 (this ▸ hy)
      exact key _ (fun x h => od_kid hw hp h) hn
    rw [hmap2] at hnk
    refine chn_ins h16 _ _ hnk (fun h => ?_) hc
    rw [← hmap2] at h
    obtain ⟨w, hwm, e⟩ := List.mem_map.mp h
    exact hF.fr w (od_kid hw hp hwm) e
theorem s_head (hw : WF G) (hR : RC z G A g) {a s : Nat} {N2 : Nat → Nat} (hF : FRE G A g a s N2) {p : Nat} {b : Bool} {l2 : List Nat} (hl : G.k p b = l2) (hod2 : ∀ q, q ∈ tr_S (tr_put G.k p b ((G.ne + 1) :: l2)) 8193 0 → q = G.ne + 1 ∨ q ∈ od G)
    (hp : p ∈ od G) {F2 : Bool → Nat → Option Nat} {f16 : Nat → Option Nat} (hF2 : ∀ c q, F2 c q = if q = nd A p ∧ c = b then some a else (cond c (fR g 15) (fR g 14)) q) (h16 : f16 = fun r => if r = a then (cond b (fR g 15) (fR g 14)) (nd A p) else fR g 16 r) : rS (tr_put G.k p b ((G.ne + 1) :: l2)) N2 F2 f16 := by
  refine s_other hw hR hF hod2 hp (fun c q h => by rw [hF2, if_neg h]) (fun q c w hq hwm _ => ?_) ?_
  · rw [h16]
    have h2 := hF.fr w (od_kid hw hq hwm)
    simp [h2]
  · rw [hF2, if_pos ⟨rfl, rfl⟩, List.map_cons, hF.ne]
    have hc := hR.s p hp b
    rw [hl] at hc
    have hmap : l2.map N2 = l2.map (nd A) := map_nd (fun w h => hF.nn w (od_kid hw hp (by rw [hl]; exact h)))
    rw [hmap]
    refine chn_put (by rw [h16]; simp) (fun x hx => ?_) hc
    obtain ⟨w, hwm, rfl⟩ := List.mem_map.mp hx
    have h2 := hF.fr w (od_kid hw hp (by rw [hl]; exact hwm))
    rw [h16]; simp [h2]
theorem o_next (hw : WF G) (hR : RC z G A g) {a s : Nat} {N2 : Nat → Nat} (hF : FRE G A g a s N2) {u v : List Nat} {x : Nat} (hod : od G = u ++ x :: v) : ∀ q, fR g 18 (nd A x) = some q → hT g q = some (3, 13) ∧ q ≠ a := by
  intro q hq
  have hc : chn (fR g 18) (some (nd A 0)) ((od G).map (nd A)) := hR.o.1
  rw [hod, List.map_append, List.map_cons] at hc
  rw [chn_head (chn_split _ _ hc)] at hq
  obtain ⟨y, hy, rfl⟩ := List.mem_map.mp (List.mem_of_mem_head? hq)
  have hyo := od_in hod hy
  exact ⟨hR.kN hw hyo, hF.fr y hyo⟩
theorem t_takeNext (hw : WF G) (hR : RC z G A g) {a s : Nat} {N2 : Nat → Nat} (hF : FRE G A g a s N2) {y : Nat} (hy : y ∈ od G) {post : Sg → Prop}
    (k : ∀ w q u v g2, tr_S G.k 8193 y = w ++ [q] → od G = u ++ q :: v → ob g g2 → fR g2 14 = fR g 14 → fR g2 15 = fR g 15 → (fR g2 16 = fun r => if r = nd A y then some a else if r = a then fR g 16 (nd A y) else fR g 16 r) → (fR g2 18 = fun r => if r = nd A q then some a else if r = a then fR g 18 (nd A q) else fR g 18 r) → (fR g2 17 = fun r => if fR g 18 (nd A q) = some r then some a else if r = a then some (nd A q) else fR g 17 r) → post g2) : w_N_takeNextSibling z mi mc ms post g (nd A y) (some a) := by
  have hky := hR.kN hw hy
  unfold w_N_takeNextSibling
  refine ⟨⟨_, _, by assumption, by decide⟩, 0, 0, by omega, by omega, ?_⟩
  refine t_lastBelow hw hR hy (fun w q hq => ?_)
  have hqo : q ∈ od G := by
    obtain ⟨u, v, h⟩ := tr_part hw.tr y 0 (by decide) hy
    unfold od
    rw [h, hq]
    exact List.mem_append_left _ (List.mem_append_right _ (List.mem_append_right _ List.mem_cons_self))
  have hkq := hR.kN hw hqo
  obtain ⟨u, v, hod⟩ := List.append_of_mem hqo
  refine ⟨_, rfl, ?_⟩
  refine ⟨⟨_, _, by assumption, by decide⟩, 0, 0, by omega, by omega, ?_⟩
  refine t_putBehind hkq hF.ha (fun e => hF.fr q hqo e.symm) (o_next hw hR hF hod) (fun g2 ho hs h18 h17 => ?_)
  have hT2 := ho.t
  refine ⟨hasR_of (by rw [hT2]; exact hky) (by decide), ?_⟩
  rintro _ rfl
  refine ⟨_, rfl, ?_⟩
  refine ⟨hasR_of (by rw [hT2]; exact hF.ha) (by decide), ?_⟩
  rintro _ rfl
  refine ⟨hasR_of (by show hT g2 _ = _; rw [hT2]; exact hky) (by decide), ?_⟩
  rintro _ rfl
  refine k w q u v _ hq hod ((ho.trans (ob.w _ _ _ (by decide) (by decide))).trans (ob.w _ _ _ (by decide) (by decide))) ?_ ?_ ?_ ?_ ?_
  · rw [fR_wR_ne _ _ _ (by decide), fR_wR_ne _ _ _ (by decide), hs 14 (by decide) (by decide)]
  · rw [fR_wR_ne _ _ _ (by decide), fR_wR_ne _ _ _ (by decide), hs 15 (by decide) (by decide)]
  · rw [fR_wR, fR_wR, hs 16 (by decide) (by decide)]
  · rw [fR_wR_ne _ _ _ (by decide), fR_wR_ne _ _ _ (by decide), h18]
  · rw [fR_wR_ne _ _ _ (by decide), fR_wR_ne _ _ _ (by decide), h17]
end CJ
