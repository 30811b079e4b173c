section CS
variable {z mi mc ms : Nat} {G : AG} {A : CA} {g : Sg} {L : List Nat} {V : Nat → Nat}
theorem od_cons (hw : WF G) : ∃ t, od G = 0 :: t := by
  refine ⟨(G.k 0 true).flatMap (tr_S G.k 8193), ?_⟩
  unfold od
  rw [tr_unf hw.tr (by decide), hw.tr0]
  rfl
theorem od_pos (hw : WF G) {u v : List Nat} {x : Nat} (h : od G = u ++ x :: v) : ∀ y ∈ v, ∃ e, y = e + 1 ∧ e < G.ne ∧ G.ins e = true := by
  intro y hy
  have hm : y ∈ od G := by rw [h]; exact List.mem_append_right _ (List.mem_cons_of_mem _ hy)
  rcases (hw.mem y).mp hm with h0 | h1
  · exfalso
    obtain ⟨t, ht⟩ := od_cons hw
    have hnd := hw.nodup
    rw [ht] at hnd
    have h0t := (List.nodup_cons.mp hnd).1
    rw [h] at ht
    cases u with
    | nil =>
      rw [List.nil_append, List.cons.injEq] at ht
      rw [← ht.2, ← h0] at h0t
      exact h0t hy
    | cons a u =>
      rw [List.cons_append, List.cons.injEq] at ht
      rw [← ht.2, ← h0] at h0t
      exact h0t (List.mem_append_right _ (List.mem_cons_of_mem _ hy))
  · exact h1
theorem RC.kN (hw : WF G) (hR : RC z G A g) {x : Nat} (h : x ∈ od G) : hT g (nd A x) = some (3, 13) := by
  rcases (hw.mem x).mp h with rfl | ⟨e, rfl, he, hi⟩
  · exact hR.k.rt
  · have := hR.k.ea e he
    rw [if_pos hi] at this
    exact this
theorem od_mid {u v : List Nat} {x : Nat} (h : od G = u ++ x :: v) : x ∈ od G := by rw [h]; exact List.mem_append_right _ List.mem_cons_self
theorem od_in {u v : List Nat} {x y : Nat} (h : od G = u ++ x :: v) (hy : y ∈ v) : y ∈ od G := by rw [h]; exact List.mem_append_right _ (List.mem_cons_of_mem _ hy)
theorem od_kid (hw : WF G) {x c : Nat} {b : Bool} (hx : x ∈ od G) (hc : c ∈ G.k x b) : c ∈ od G := by
  unfold od at hx ⊢
  obtain ⟨u, v, h⟩ := tr_part hw.tr x 0 (by decide) hx
  rw [h]
  refine List.mem_append_left _ (List.mem_append_right _ ?_)
  have hxM : x < 8193 := by have := hw.tr x b c hc; omega
  have hcM : c < 8193 := (hw.tr x b c hc).2
  rw [tr_unf hw.tr hxM]
  cases b with
  | false => exact List.mem_append_left _ (List.mem_flatMap.mpr ⟨c, hc, tr_self hw.tr hcM⟩)
  | true => exact List.mem_append_right _ (List.mem_cons_of_mem _ (List.mem_flatMap.mpr ⟨c, hc, tr_self hw.tr hcM⟩))
theorem od_kid1 (hw : WF G) {x c : Nat} {b : Bool} (hx : x ∈ od G) (hc : c ∈ G.k x b) : ∃ e, c = e + 1 ∧ e < G.ne ∧ G.ins e = true := by
  rcases (hw.mem c).mp (od_kid hw hx hc) with h | h
  · have := hw.tr x b c hc; omega
  · exact h
theorem chn_split {f : Nat → Option Nat} {x : Nat} {v : List Nat} : ∀ (u : List Nat) (o : Option Nat), chn f o (u ++ x :: v) → chn f (f x) v := by
  intro u
  induction u with
  | nil => intro o h; exact h.2
  | cons a u ih => intro o h; exact ih _ h.2
theorem t_isSeenIn (hw : WF G) (hR : RC z G A g) {e a : Nat} (he : e < G.ne) (hi : G.ins e = true) (ha : hT g a = some (100, 16)) (hv : ∀ s, s < 16 → aI g a s = nI (V s)) (hb : ∀ s, s < 16 → V s ≤ 8192) {post : Int32 → Sg → Prop} (k1 : sn G V e → post 1 g) (k0 : ¬ sn G V e → post 0 g) : w_N_isSeenIn z mi mc ms post g (A.ea e) (some a) := by
  have h16 : ∀ e, e < G.ne → V (G.sl e) ≤ 2000000 := fun e he => by
    have := hw.sl_lt e he
    have := hw.na_le
    have := hb (G.sl e) (by omega)
    omega
  have hk := hR.k.ea e he
  rw [if_pos hi] at hk
  have loop : ∀ (l : List Nat), (∀ d ∈ l, d < G.ne ∧ G.ins d = false) → ∀ o, chn (fR g 12) o (l.map A.ea) → ((∀ d ∈ l, ¬ kn G V d) → post 1 g) → ((∃ d ∈ l, kn G V d) → post 0 g) → ∀ kc ks, kc ≤ mc → ks ≤ ms → w_N_isSeenIn_15 z mi mc ms post (l.length + 1) kc ks g (some a) o := by
    intro l
    induction l with
    | nil =>
      intro _ o ho q1 q0 kc ks hk hk'
      have : o = none := ho
      subst this
      unfold w_N_isSeenIn_15
      exact ⟨fun _ => q1 (fun d hd => nomatch hd), (fun _ h => nomatch h)⟩
    | cons d l ih =>
      intro hl o ho q1 q0 kc ks hk hk'
      obtain ⟨rfl, ho2⟩ := ho
      obtain ⟨hd, hdi⟩ := hl d List.mem_cons_self
      have hkd := hR.k.ea d hd
      rw [if_neg (by rw [hdi]; decide)] at hkd
      show w_N_isSeenIn_15 z mi mc ms post ((l.length + 1) + 1) kc ks g (some a) (some (A.ea d))
      unfold w_N_isSeenIn_15
      refine ⟨(fun h => nomatch h), ?_⟩
      rintro _ ⟨⟩
      refine ⟨⟨_, _, by assumption, by decide⟩, 0, 0, by omega, by omega, ?_⟩
      refine t_isIn hw hR hd ha hv (h16 d hd) (fun hy => ⟨fun h => absurd h (by decide), fun _ => q0 ⟨d, List.mem_cons_self, hy⟩⟩) (fun hy => ⟨fun _ => ?_, fun h => absurd rfl h⟩)
      (refine ⟨?_, ?_⟩; (focus (first | exact hasI_of (by assumption) (by decide) | exact hasR_of (by assumption) (by decide))); rintro _ rfl)
      exact ih (fun x hx => hl x (List.mem_cons_of_mem _ hx)) _ ho2 (fun h => q1 (fun x hx => by
        rcases List.mem_cons.mp hx with rfl | hx
        · exact hy
        · exact h x hx)) (fun ⟨x, hx, hx'⟩ => q0 ⟨x, List.mem_cons_of_mem _ hx, hx'⟩) kc ks hk hk'
  unfold w_N_isSeenIn
  refine ⟨⟨_, _, by assumption, by decide⟩, 0, 0, by omega, by omega, ?_⟩
  refine t_isIn hw hR he ha hv (h16 e he) (fun hy => ⟨fun _ => ?_, fun h => absurd h (by decide)⟩) (fun hy => ⟨fun h => absurd rfl h, fun _ => k0 (fun h => hy h.1)⟩)
  (refine ⟨?_, ?_⟩; (focus (first | exact hasI_of (by assumption) (by decide) | exact hasR_of (by assumption) (by decide))); rintro _ rfl)
  refine ⟨_, loop (G.de e) (fun d hd => ⟨(hw.de_lt e d hd).2.1, (hw.de_lt e d hd).2.2.1⟩) _ (hR.d.ch e he hi) (fun h => k1 ⟨hy, h⟩) (fun ⟨d, hd, hd'⟩ => k0 (fun h => h.2 d hd hd')) 0 0 (by omega) (by omega)⟩
def sb (G : AG) (V : Nat → Nat) (x : Nat) : Bool := decide (x ≠ 0 ∧ sn G V (x - 1))
theorem sb_0 : sb G V 0 = false := by simp [sb]
theorem sb_s {e : Nat} : sb G V (e + 1) = true ↔ sn G V e := by simp [sb]
theorem t_nextSeen (hw : WF G) (hR : RC z G A g) (hv : RCv A V g) (hb : ∀ s, s < 16 → V s ≤ 8192) {u v : List Nat} {x : Nat} (hod : od G = u ++ x :: v) {post : Option Nat → Sg → Prop} (k0 : v.filter (sb G V) = [] → post none g) (k1 : ∀ v1 y v2, v = v1 ++ y :: v2 → v1.filter (sb G V) = [] → sb G V y = true → post (some (nd A y)) g) : w_C_nextSeen z mi mc ms post g A.c (some (nd A x)) := by
  have h1 := hR.k.c
  have h2 := hR.k.vw
  have hx := hR.kN hw (od_mid hod)
  have loop : ∀ (v : List Nat), (∀ y ∈ v, ∃ e, y = e + 1 ∧ e < G.ne ∧ G.ins e = true) → ∀ o, chn (fR g 18) o (v.map (nd A)) → (v.filter (sb G V) = [] → post none g) → (∀ v1 y v2, v = v1 ++ y :: v2 → v1.filter (sb G V) = [] → sb G V y = true → post (some (nd A y)) g) → ∀ kc ks, kc ≤ mc → ks ≤ ms → w_C_nextSeen_5 z mi mc ms post (v.length + 1) kc ks g A.c o := by
    intro v
    induction v with
    | nil =>
      intro _ o ho q0 q1 kc ks hk hk'
      have : o = none := ho
      subst this
      unfold w_C_nextSeen_5
      exact ⟨fun _ => q0 rfl, (fun _ h => nomatch h)⟩
    | cons y v ih =>
      intro hl o ho q0 q1 kc ks hk hk'
      obtain ⟨rfl, ho2⟩ := ho
      obtain ⟨e, rfl, he, hi⟩ := hl y List.mem_cons_self
      have hke := hR.k.ea e he
      rw [if_pos hi] at hke
      show w_C_nextSeen_5 z mi mc ms post ((v.length + 1) + 1) kc ks g A.c (some (A.ea e))
      unfold w_C_nextSeen_5
      refine ⟨(fun h => nomatch h), ?_⟩
      rintro _ ⟨⟩
      (refine ⟨?_, ?_⟩; (focus (first | exact hasI_of (by assumption) (by decide) | exact hasR_of (by assumption) (by decide))); rintro _ rfl; try rw [hR.f.vw])
      refine ⟨⟨_, _, by assumption, by decide⟩, 0, 0, by omega, by omega, ?_⟩
      refine t_isSeenIn hw hR he hi h2 hv hb (fun hy => ⟨fun h => absurd h (by decide), fun _ => q1 [] (e + 1) v rfl rfl (sb_s.mpr hy)⟩) (fun hy => ⟨fun _ => ?_, fun h => absurd rfl h⟩)
      (refine ⟨?_, ?_⟩; (focus (first | exact hasI_of (by assumption) (by decide) | exact hasR_of (by assumption) (by decide))); rintro _ rfl)
      have hno : sb G V (e + 1) = false := by
        cases hc : sb G V (e + 1) with
        | false => rfl
        | true => exact absurd (sb_s.mp hc) hy
      refine ih (fun x hx => hl x (List.mem_cons_of_mem _ hx)) _ ho2 (fun h => q0 ?_) (fun v1 y v2 hv hv1 hy' => q1 ((e + 1) :: v1) y v2 (by rw [hv]; rfl) ?_ hy') kc ks hk hk'
      · rw [List.filter_cons_of_neg (by rw [hno]; decide)]; exact h
      · rw [List.filter_cons_of_neg (by rw [hno]; decide)]; exact hv1
  unfold w_C_nextSeen
  refine ⟨_, rfl, ?_⟩
  (refine ⟨?_, ?_⟩; (focus (first | exact hasI_of (by assumption) (by decide) | exact hasR_of (by assumption) (by decide))); rintro _ rfl)
  have hc : chn (fR g 18) (fR g 18 (nd A x)) (v.map (nd A)) := by
    have := hR.o.1
    change chn _ _ ((od G).map (nd A)) at this
    rw [hod, List.map_append, List.map_cons] at this
    exact chn_split _ _ this
  exact ⟨_, loop v (od_pos hw hod) _ hc k0 k1 0 0 (by omega) (by omega)⟩
theorem t_nextKnown (hw : WF G) (hR : RC z G A g) (hv : RCv A V g) (hb : ∀ s, s < 16 → V s ≤ 8192) {u v : List Nat} {x : Nat} (hod : od G = u ++ x :: v) {post : Option Nat → Sg → Prop} (k0 : (∀ y ∈ v, ¬ kn G V (y - 1)) → post none g) (k1 : ∀ v1 y v2, v = v1 ++ y :: v2 → (∀ w ∈ v1, ¬ kn G V (w - 1)) → kn G V (y - 1) → post (some (nd A y)) g) : w_C_nextKnown z mi mc ms post g A.c (some (nd A x)) := by
  have h1 := hR.k.c
  have h2 := hR.k.vw
  have hx := hR.kN hw (od_mid hod)
  have h16 : ∀ e, e < G.ne → V (G.sl e) ≤ 2000000 := fun e he => by
    have := hw.sl_lt e he
    have := hw.na_le
    have := hb (G.sl e) (by omega)
    omega
  have loop : ∀ (v : List Nat), (∀ y ∈ v, ∃ e, y = e + 1 ∧ e < G.ne ∧ G.ins e = true) → ∀ o, chn (fR g 18) o (v.map (nd A)) → ((∀ y ∈ v, ¬ kn G V (y - 1)) → post none g) → (∀ v1 y v2, v = v1 ++ y :: v2 → (∀ w ∈ v1, ¬ kn G V (w - 1)) → kn G V (y - 1) → post (some (nd A y)) g) → ∀ kc ks, kc ≤ mc → ks ≤ ms → w_C_nextKnown_5 z mi mc ms post (v.length + 1) kc ks g A.c o := by
    intro v
    induction v with
    | nil =>
      intro _ o ho q0 q1 kc ks hk hk'
      have : o = none := ho
      subst this
      unfold w_C_nextKnown_5
      exact ⟨fun _ => q0 (fun y hy => nomatch hy), (fun _ h => nomatch h)⟩
    | cons y v ih =>
      intro hl o ho q0 q1 kc ks hk hk'
      obtain ⟨rfl, ho2⟩ := ho
      obtain ⟨e, rfl, he, hi⟩ := hl y List.mem_cons_self
      have hke := hR.k.ea e he
      rw [if_pos hi] at hke
      show w_C_nextKnown_5 z mi mc ms post ((v.length + 1) + 1) kc ks g A.c (some (A.ea e))
      unfold w_C_nextKnown_5
      refine ⟨(fun h => nomatch h), ?_⟩
      rintro _ ⟨⟩
      (refine ⟨?_, ?_⟩; (focus (first | exact hasI_of (by assumption) (by decide) | exact hasR_of (by assumption) (by decide))); rintro _ rfl; try rw [hR.f.vw])
      refine ⟨⟨_, _, by assumption, by decide⟩, 0, 0, by omega, by omega, ?_⟩
      refine t_isIn hw hR he h2 hv (h16 e he) (fun hy => ⟨fun h => absurd h (by decide), fun _ => q1 [] (e + 1) v rfl (fun w hw => nomatch hw) hy⟩) (fun hy => ⟨fun _ => ?_, fun h => absurd rfl h⟩)
      (refine ⟨?_, ?_⟩; (focus (first | exact hasI_of (by assumption) (by decide) | exact hasR_of (by assumption) (by decide))); rintro _ rfl)
      refine ih (fun x hx => hl x (List.mem_cons_of_mem _ hx)) _ ho2 (fun h => q0 (fun w hw => ?_)) (fun v1 y v2 hv hv1 hy' => q1 ((e + 1) :: v1) y v2 (by rw [hv]; rfl) (fun w hw => ?_) hy') kc ks hk hk'
      · rcases List.mem_cons.mp hw with rfl | hw
        · exact hy
        · exact h w hw
      · rcases List.mem_cons.mp hw with rfl | hw
        · exact hy
        · exact hv1 w hw
  unfold w_C_nextKnown
  refine ⟨_, rfl, ?_⟩
  (refine ⟨?_, ?_⟩; (focus (first | exact hasI_of (by assumption) (by decide) | exact hasR_of (by assumption) (by decide))); rintro _ rfl)
  have hc : chn (fR g 18) (fR g 18 (nd A x)) (v.map (nd A)) := by
    have := hR.o.1
    change chn _ _ ((od G).map (nd A)) at this
    rw [hod, List.map_append, List.map_cons] at this
    exact chn_split _ _ this
  exact ⟨_, loop v (od_pos hw hod) _ hc k0 k1 0 0 (by omega) (by omega)⟩
def seL (G : AG) (V : Nat → Nat) : List Nat := (od G).filter (sb G V)
theorem nodup_len : ∀ (n : Nat) (l : List Nat), l.Nodup → (∀ x ∈ l, x < n) → l.length ≤ n := by
  intro n
  induction n with
  | zero =>
    intro l _ h
    cases l with
    | nil => exact Nat.le_refl _
    | cons a l => exact absurd (h a List.mem_cons_self) (by omega)
  | succ n ih =>
    intro l hl h
    by_cases hn : n ∈ l
    · have h1 := ih (l.erase n) (hl.erase n) (fun x hx => by
        have := (hl.mem_erase_iff).mp hx
        have := h x this.2
        omega)
      rw [List.length_erase_of_mem hn] at h1
      omega
    · have h1 := ih l hl (fun x hx => by
        have := h x hx
        have : x ≠ n := fun e => hn (e ▸ hx)
        omega)
      omega
theorem od_len (hw : WF G) : (od G).length ≤ 8193 := by
  refine nodup_len 8193 _ hw.nodup (fun x hx => ?_)
  rcases (hw.mem x).mp hx with rfl | ⟨e, rfl, he, -⟩
  · decide
  · have := hw.ne_le; omega
theorem t_countSeen (hw : WF G) (hR : RC z G A g) (hv : RCv A V g) (hb : ∀ s, s < 16 → V s ≤ 8192) {post : Int32 → Sg → Prop} (k : post (nI (seL G V).length) g) : w_C_countSeen z mi mc ms post g A.c := by
  have h1 := hR.k.c
  have loop : ∀ n cnt u y v, od G = u ++ y :: v → (v.filter (sb G V)).length = n → post (nI (cnt + 1 + n)) g → ∀ kc ks, kc ≤ mc → ks ≤ ms → w_C_countSeen_11 z mi mc ms post (n + 2) kc ks g A.c (nI cnt) (some (nd A y)) := by
    intro n
    induction n with
    | zero =>
      intro cnt u y v hod hn k kc ks hk hk'
      unfold w_C_countSeen_11
      refine ⟨(fun h => nomatch h), ?_⟩
      rintro _ ⟨⟩
      refine ⟨⟨_, _, by assumption, by decide⟩, 0, 0, by omega, by omega, ?_⟩
      refine t_nextSeen hw hR hv hb hod (fun _ => ?_) (fun v1 y v2 h1 h2 h3 => ?_)
      · unfold w_C_countSeen_11
        exact ⟨fun _ => by rw [nI_1]; exact k, (fun _ h => nomatch h)⟩
      · rw [h1, List.filter_append, List.filter_cons_of_pos h3] at hn
        simp at hn
    | succ n ih =>
      intro cnt u y v hod hn k kc ks hk hk'
      unfold w_C_countSeen_11
      refine ⟨(fun h => nomatch h), ?_⟩
      rintro _ ⟨⟩
      refine ⟨⟨_, _, by assumption, by decide⟩, 0, 0, by omega, by omega, ?_⟩
      refine t_nextSeen hw hR hv hb hod (fun h => ?_) (fun v1 y' v2 h1 h2 h3 => ?_)
      · rw [h] at hn; simp at hn
      · rw [nI_1]
        refine ih (cnt + 1) (u ++ y :: v1) y' v2 (by rw [hod, h1]; simp) ?_ ?_ kc ks hk hk'
        · rw [h1, List.filter_append, List.filter_cons_of_pos h3, h2] at hn
          simpa using hn
        · have : cnt + 1 + 1 + n = cnt + 1 + (n + 1) := by omega
          rw [this]; exact k
  obtain ⟨t, ht⟩ := od_cons hw
  have hse : seL G V = t.filter (sb G V) := by
    unfold seL
    rw [ht, List.filter_cons_of_neg (by rw [sb_0]; decide)]
  unfold w_C_countSeen
  (refine ⟨?_, ?_⟩; (focus (first | exact hasI_of (by assumption) (by decide) | exact hasR_of (by assumption) (by decide))); rintro _ rfl; try rw [hR.f.rt])
  refine ⟨⟨_, _, by assumption, by decide⟩, 0, 0, by omega, by omega, ?_⟩
  refine t_nextSeen (u := []) (x := 0) (v := t) hw hR hv hb ht (fun h => ⟨1, ?_⟩) (fun v1 y v2 h1 h2 h3 => ⟨(v2.filter (sb G V)).length + 2, ?_⟩)
  · unfold w_C_countSeen_11
    refine ⟨fun _ => ?_, (fun _ h => nomatch h)⟩
    rw [hse, h] at k
    exact k
  · refine loop _ 0 (0 :: v1) y v2 (by rw [ht, h1]; rfl) rfl ?_ 0 0 (by omega) (by omega)
    rw [hse, h1, List.filter_append, List.filter_cons_of_pos h3, h2] at k
    have e1 : 0 + 1 + (v2.filter (sb G V)).length = ([] ++ y :: v2.filter (sb G V)).length := by simp; omega
    rw [e1]
    exact k
theorem t_seenNode (hw : WF G) (hR : RC z G A g) (hv : RCv A V g) (hb : ∀ s, s < 16 → V s ≤ 8192) {n : Nat} (hn : n ≤ (seL G V).length) {post : Option Nat → Sg → Prop} (k : ∀ u x v, od G = u ++ x :: v → ((u ++ [x]).filter (sb G V)).length = n → (n = 0 → u = [] ∧ x = 0) → (0 < n → sb G V x = true) → post (some (nd A x)) g) : w_C_seenNode z mi mc ms post g A.c (nI n) := by
  have h1 := hR.k.c
  have hlen := od_len hw
  have hn2 : n ≤ 2000000 := by
    have : (seL G V).length ≤ (od G).length := List.length_filter_le _ _
    omega
  have loop : ∀ d i u x v, i + d = n → od G = u ++ x :: v → ((u ++ [x]).filter (sb G V)).length = i → (i = 0 → u = [] ∧ x = 0) → (0 < i → sb G V x = true) → ∀ kc ks, kc ≤ mc → ks ≤ ms → w_C_seenNode_7 z mi mc ms post (d + 1) kc ks g A.c (nI n) (some (nd A x)) (nI i) := by
    intro d
    induction d with
    | zero =>
      intro i u x v hi hod hl h0 hp kc ks hk hk'
      have : i = n := by omega
      subst this
      unfold w_C_seenNode_7
      exact ⟨fun _ => k u x v hod hl h0 hp, fun h => absurd ((lI hn2 hn2).mpr (Nat.le_refl _)) h⟩
    | succ d ih =>
      intro i u x v hi hod hl h0 hp kc ks hk hk'
      unfold w_C_seenNode_7
      refine ⟨fun h => absurd ((lI (by omega) (by omega)).mp h) (by omega), fun _ => ⟨(fun h => nomatch h), ?_⟩⟩
      rintro _ ⟨⟩
      refine ⟨⟨_, _, by assumption, by decide⟩, 0, 0, by omega, by omega, ?_⟩
      refine t_nextSeen hw hR hv hb hod (fun h => ?_) (fun v1 y v2 h1 h2 h3 => ?_)
      · exfalso
        have e1 : od G = (u ++ [x]) ++ v := by rw [hod]; simp
        unfold seL at hn
        rw [e1, List.filter_append, h, List.append_nil, hl] at hn
        omega
      · rw [nI_1]
        refine ih (i + 1) (u ++ x :: v1) y v2 (by omega) (by rw [hod, h1]; simp) ?_ (fun h => absurd h (by omega)) (fun _ => h3) kc ks hk hk'
        have e1 : u ++ x :: v1 ++ [y] = (u ++ [x]) ++ v1 ++ [y] := by simp
        rw [e1, List.filter_append, List.filter_append, h2, List.append_nil, List.length_append, hl, List.filter_cons_of_pos h3]
        rfl
  obtain ⟨t, ht⟩ := od_cons hw
  unfold w_C_seenNode
  (refine ⟨?_, ?_⟩; (focus (first | exact hasI_of (by assumption) (by decide) | exact hasR_of (by assumption) (by decide))); rintro _ rfl; try rw [hR.f.rt])
  refine ⟨_, loop n 0 [] 0 t (by omega) ht ?_ (fun _ => ⟨rfl, rfl⟩) (fun h => absurd h (by omega)) 0 0 (by omega) (by omega)⟩
  rw [List.nil_append, List.filter_cons_of_neg (by rw [sb_0]; decide)]
  rfl
theorem t_hasRightIn (hw : WF G) (hR : RC z G A g) (hv : RCv A V g) (hb : ∀ s, s < 16 → V s ≤ 8192) {x : Nat} (hx : x ∈ od G) {post : Int32 → Sg → Prop} (k1 : (∃ c ∈ G.k x true, kn G V (c - 1)) → post 1 g) (k0 : (∀ c ∈ G.k x true, ¬ kn G V (c - 1)) → post 0 g) : w_N_hasRightIn z mi mc ms post g (nd A x) (some A.vw) := by
  have h2 := hR.k.vw
  have hkx := hR.kN hw hx
  have h16 : ∀ e, e < G.ne → V (G.sl e) ≤ 2000000 := fun e he => by
    have := hw.sl_lt e he
    have := hw.na_le
    have := hb (G.sl e) (by omega)
    omega
  have loop : ∀ (v : List Nat), (∀ y ∈ v, ∃ e, y = e + 1 ∧ e < G.ne ∧ G.ins e = true) → ∀ o, chn (fR g 16) o (v.map (nd A)) → ((∃ y ∈ v, kn G V (y - 1)) → post 1 g) → ((∀ y ∈ v, ¬ kn G V (y - 1)) → post 0 g) → ∀ kc ks, kc ≤ mc → ks ≤ ms → w_N_hasRightIn_5 z mi mc ms post (v.length + 1) kc ks g (some A.vw) o := by
    intro v
    induction v with
    | nil =>
      intro _ o ho q1 q0 kc ks hk hk'
      have : o = none := ho
      subst this
      unfold w_N_hasRightIn_5
      exact ⟨fun _ => q0 (fun y hy => nomatch hy), (fun _ h => nomatch h)⟩
    | cons y v ih =>
      intro hl o ho q1 q0 kc ks hk hk'
      obtain ⟨rfl, ho2⟩ := ho
      obtain ⟨e, rfl, he, hi⟩ := hl y List.mem_cons_self
      have hke := hR.k.ea e he
      rw [if_pos hi] at hke
      show w_N_hasRightIn_5 z mi mc ms post ((v.length + 1) + 1) kc ks g (some A.vw) (some (A.ea e))
      unfold w_N_hasRightIn_5
      refine ⟨(fun h => nomatch h), ?_⟩
      rintro _ ⟨⟩
      refine ⟨⟨_, _, by assumption, by decide⟩, 0, 0, by omega, by omega, ?_⟩
      refine t_isIn hw hR he h2 hv (h16 e he) (fun hy => ⟨fun h => absurd h (by decide), fun _ => q1 ⟨e + 1, List.mem_cons_self, hy⟩⟩) (fun hy => ⟨fun _ => ?_, fun h => absurd rfl h⟩)
      (refine ⟨?_, ?_⟩; (focus (first | exact hasI_of (by assumption) (by decide) | exact hasR_of (by assumption) (by decide))); rintro _ rfl)
      refine ih (fun x hx => hl x (List.mem_cons_of_mem _ hx)) _ ho2 (fun ⟨w, hw, hw'⟩ => q1 ⟨w, List.mem_cons_of_mem _ hw, hw'⟩) (fun h => q0 (fun w hw => ?_)) kc ks hk hk'
      rcases List.mem_cons.mp hw with rfl | hw
      · exact hy
      · exact h w hw
  unfold w_N_hasRightIn
  (refine ⟨?_, ?_⟩; (focus (first | exact hasI_of (by assumption) (by decide) | exact hasR_of (by assumption) (by decide))); rintro _ rfl)
  exact ⟨_, loop _ (fun y hy => od_kid1 hw hx hy) _ (hR.s x hx true) k1 k0 0 0 (by omega) (by omega)⟩
end CS
