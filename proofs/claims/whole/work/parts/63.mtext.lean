section MT
variable {z mi mc ms : Nat} {G : AG} {M : MA} {g : Sg} {L : List Nat} {V : Nat → Nat}
theorem RM.row (hw : WF G) (hR : RM G M g) : ∃ t, od G = 0 :: t ∧ t.length ≤ 8192 ∧ fI g 31 M.gr = nI t.length ∧ (∀ i e, t[i]? = some (e + 1) → aI g (M.f 50) i = nI e) ∧ (∀ y ∈ t, ∃ e, y = e + 1 ∧ e < G.ne ∧ G.ins e = true) := by
  obtain ⟨t, ht⟩ := od_cons hw
  refine ⟨t, ht, ?_, ?_, fun i e h => ?_, od_pos (u := []) (x := 0) hw ht⟩
  · have := od_len hw
    rw [ht, List.length_cons] at this
    omega
  · have := hR.c.no
    rw [ht, List.length_cons, Nat.add_sub_cancel] at this
    exact this
  · exact hR.c.ord i (e + 1) (by rw [ht]; exact h)
theorem get_mid {u v : List Nat} {x : Nat} : (u ++ x :: v)[u.length]? = some x := by simp
theorem t_seenAt (hw : WF G) (hR : RM G M g) {a fr i : Nat} (hV : VS g a fr V) (hi : i < (seL G V).length) {post : Int32 → Sg → Prop} (k : ∀ u x v, od G = 0 :: (u ++ x :: v) → (u.filter (sb G V)).length = i → sb G V x = true → post (nI u.length) g) : w_G_seenAt z mi mc ms post g M.gr (some a) (nI fr) (nI i) := by
  have h1 := hR.k.gr
  have h50 := hR.kf 50 (by decide) rfl
  obtain ⟨t, ht, htl, hno, hod, hpos⟩ := hR.row hw
  have hse : seL G V = t.filter (sb G V) := by
    unfold seL
    rw [ht, List.filter_cons_of_neg (by rw [sb_0]; decide)]
  have hil : i ≤ 8193 := by
    have := seL_le (V := V) hw
    omega
  have loop : ∀ (w u : List Nat) (j : Nat), t = u ++ w → (u.filter (sb G V)).length + j = i → j < (w.filter (sb G V)).length → ∀ kc ks, kc ≤ mc → ks ≤ ms → w_G_seenAt_6 z mi mc ms post (w.length + 1) kc ks g M.gr (some a) (nI fr) (nI j) (nI u.length) := by
    intro w
    induction w with
    | nil => intro u j _ _ hj; exact absurd hj (by simp)
    | cons x w ih =>
      intro u j htu hcj hj kc ks hk hk'
      obtain ⟨e, rfl, he, hie⟩ := hpos x (by rw [htu]; simp)
      have hul : u.length < 8192 := by
        rw [htu, List.length_append, List.length_cons] at htl
        omega
      have hget : aI g (M.f 50) u.length = nI e := hod u.length e (by rw [htu]; exact get_mid)
      have nxt : t = (u ++ [e + 1]) ++ w := by rw [htu]; simp
      show w_G_seenAt_6 z mi mc ms post ((w.length + 1) + 1) kc ks g M.gr (some a) (nI fr) (nI j) (nI u.length)
      unfold w_G_seenAt_6
      (refine ⟨?_, ?_⟩; (focus (first | exact hasI_of (by assumption) (by decide) | exact hasR_of (by assumption) (by decide))); rintro _ rfl; try rw [hR.f.f 50 (by decide)])
      refine ⟨_, rfl, ?_⟩
      (refine ⟨u.length, ⟨_, h50, rfl, by omega, by decide⟩, ?_⟩; rintro _ rfl; try rw [hget])
      refine ⟨⟨_, _, by assumption, by decide⟩, 0, 0, by omega, by omega, ?_⟩
      refine t_mSeen hw hR hV he hie (fun hs => ⟨fun h => absurd h (by decide), fun _ => ⟨fun hj0 => ?_, fun hj0 => ?_⟩⟩) (fun hs => ⟨fun _ => ?_, fun h => absurd rfl h⟩)
      · have : j = 0 := by
          have := (lI (b := 0) (by omega) (by omega)).mp hj0
          omega
        subst this
        exact k u (e + 1) w (by rw [ht, htu]) (by omega) (sb_s.mpr hs)
      · have hjp : 0 < j := by
          by_cases h : j = 0
          · rw [h] at hj0; exact absurd (Int32.le_refl _) hj0
          · omega
        obtain ⟨m, rfl⟩ : ∃ m, j = m + 1 := ⟨j - 1, by omega⟩
        unfold w_G_seenAt_27
        (refine ⟨?_, ?_⟩; (focus (first | exact hasI_of (by assumption) (by decide) | exact hasR_of (by assumption) (by decide))); rintro _ rfl; try rw [hR.f.f 50 (by decide)])
        refine ⟨_, rfl, ?_⟩
        (refine ⟨u.length, ⟨_, h50, rfl, by omega, by decide⟩, ?_⟩; rintro _ rfl; try rw [hget])
        refine ⟨⟨_, _, by assumption, by decide⟩, 0, 0, by omega, by omega, ?_⟩
        refine t_mSeen hw hR hV he hie (fun _ => ⟨fun h => absurd h (by decide), fun _ => ?_⟩) (fun hs' => absurd hs hs')
        rw [nI_1, nI_dec]
        rw [List.filter_cons_of_pos (sb_s.mpr hs), List.length_cons] at hj
        have := ih (u ++ [e + 1]) m nxt (by rw [List.filter_append, List.length_append, List.filter_cons_of_pos (sb_s.mpr hs)]; simp; omega) (by omega) kc ks hk hk'
        rw [List.length_append] at this
        exact this
      · have hns : ¬ sb G V (e + 1) = true := fun h => hs (sb_s.mp h)
        unfold w_G_seenAt_27
        (refine ⟨?_, ?_⟩; (focus (first | exact hasI_of (by assumption) (by decide) | exact hasR_of (by assumption) (by decide))); rintro _ rfl; try rw [hR.f.f 50 (by decide)])
        refine ⟨_, rfl, ?_⟩
        (refine ⟨u.length, ⟨_, h50, rfl, by omega, by decide⟩, ?_⟩; rintro _ rfl; try rw [hget])
        refine ⟨⟨_, _, by assumption, by decide⟩, 0, 0, by omega, by omega, ?_⟩
        refine t_mSeen hw hR hV he hie (fun hs' => absurd hs' hs) (fun _ => ⟨fun _ => ?_, fun h => absurd rfl h⟩)
        rw [nI_1]
        rw [List.filter_cons_of_neg hns] at hj
        have := ih (u ++ [e + 1]) j nxt (by rw [List.filter_append, List.length_append, List.filter_cons_of_neg hns]; simp; omega) hj kc ks hk hk'
        rw [List.length_append] at this
        exact this
  unfold w_G_seenAt
  rw [hse] at hi
  exact ⟨_, loop t [] i rfl (by simp) hi 0 0 (by omega) (by omega)⟩
theorem t_inRow (hw : WF G) (hR : RM G M g) {e : Nat} (he : e < G.ne) (hi : G.ins e = true) {post : Int32 → Sg → Prop} (k : ∀ u v, od G = 0 :: (u ++ (e + 1) :: v) → post (nI u.length) g) : w_G_inRow z mi mc ms post g M.gr (nI e) := by
  have h1 := hR.k.gr
  have h50 := hR.kf 50 (by decide) rfl
  have hne := hw.ne_le
  obtain ⟨t, ht, htl, hno, hod, hpos⟩ := hR.row hw
  have hm : e + 1 ∈ t := by
    have h := (hw.mem (e + 1)).mpr (Or.inr ⟨e, rfl, he, hi⟩)
    rw [ht] at h
    rcases List.mem_cons.mp h with h | h
    · omega
    · exact h
  have loop : ∀ (w u : List Nat), t = u ++ w → e + 1 ∈ w → ∀ kc ks, w_G_inRow_2 z mi mc ms post (w.length + 1) kc ks g M.gr (nI e) (nI u.length) := by
    intro w
    induction w with
    | nil => intro u _ h; cases h
    | cons x w ih =>
      intro u htu hxm kc ks
      obtain ⟨e', rfl, he', hie⟩ := hpos x (by rw [htu]; simp)
      have hul : u.length < 8192 := by
        rw [htu, List.length_append, List.length_cons] at htl
        omega
      have hget : aI g (M.f 50) u.length = nI e' := hod u.length e' (by rw [htu]; exact get_mid)
      show w_G_inRow_2 z mi mc ms post ((w.length + 1) + 1) kc ks g M.gr (nI e) (nI u.length)
      unfold w_G_inRow_2
      (refine ⟨?_, ?_⟩; (focus (first | exact hasI_of (by assumption) (by decide) | exact hasR_of (by assumption) (by decide))); rintro _ rfl; try rw [hR.f.f 50 (by decide)])
      refine ⟨_, rfl, ?_⟩
      (refine ⟨u.length, ⟨_, h50, rfl, by omega, by decide⟩, ?_⟩; rintro _ rfl; try rw [hget])
      rw [eI (by omega) (by omega)]
      refine ⟨fun h => ?_, fun h => ?_⟩
      · subst h
        exact k u w (by rw [ht, htu])
      · rw [nI_1]
        have := ih (u ++ [e' + 1]) (by rw [htu]; simp) (by
          rcases List.mem_cons.mp hxm with h' | h'
          · omega
          · exact h') kc ks
        rw [List.length_append] at this
        exact this
  unfold w_G_inRow
  exact ⟨_, loop t [] rfl hm 0 0⟩
theorem st_ne (hw : WF G) {e : Nat} (he : e < G.ne) : st G G.ne e ↔ G.de e = [] := by
  constructor
  · intro h
    cases hd : G.de e with
    | nil => rfl
    | cons d l =>
      have hm : d ∈ G.de e := by rw [hd]; exact List.mem_cons_self
      exact absurd (hw.de_lt e d hm).2.1 (h.2 d hm)
  · intro h
    refine ⟨he, fun d hd => ?_⟩
    rw [h] at hd; cases hd
theorem t_isShown (hw : WF G) (hR : RM G M g) {e : Nat} (he : e < G.ne) (hi : G.ins e = true) {post : Int32 → Sg → Prop} (k1 : st G G.ne e → post 1 g) (k0 : ¬ st G G.ne e → post 0 g) : w_G_isShown z mi mc ms post g M.gr (nI e) := by
  have h1 := hR.k.gr
  have h49 := hR.kf 49 (by decide) rfl
  have hne := hw.ne_le
  have hc := hR.c.de e he hi
  unfold w_G_isShown
  (refine ⟨?_, ?_⟩; (focus (first | exact hasI_of (by assumption) (by decide) | exact hasR_of (by assumption) (by decide))); rintro _ rfl; try rw [hR.f.f 49 (by decide)])
  refine ⟨_, rfl, ?_⟩
  (refine ⟨e, ⟨_, h49, rfl, by omega, by decide⟩, ?_⟩; rintro _ rfl)
  cases hd : G.de e with
  | nil =>
    rw [hd] at hc
    have hv : aI g (M.f 49) e = -1 := hc
    rw [hv]
    exact ⟨fun h => absurd h (by decide), fun _ => k1 ((st_ne hw he).mpr hd)⟩
  | cons d l =>
    rw [hd] at hc
    have hv : aI g (M.f 49) e = nI d := hc.1
    have hdl := (hw.de_lt e d (by rw [hd]; exact List.mem_cons_self)).2.1
    rw [hv]
    exact ⟨fun _ => k0 (fun h => by rw [(st_ne hw he).mp h] at hd; cases hd), fun h => absurd (nI_pos' (by omega)) h⟩
theorem t_mlength (hw : WF G) (hR : RM G M g) {post : Int32 → Sg → Prop} (k : post (nI (txL G G.ne)) g) : w_G_length z mi mc ms post g M.gr := by
  have h1 := hR.k.gr
  have h50 := hR.kf 50 (by decide) rfl
  obtain ⟨t, ht, htl, hno, hod, hpos⟩ := hR.row hw
  have htx : tx G G.ne = t.filter (tb G G.ne) := by
    unfold tx
    rw [ht, List.filter_cons_of_neg (by rw [tb_0]; decide)]
  have loop : ∀ (w u : List Nat), t = u ++ w → ∀ kc ks, kc ≤ mc → ks ≤ ms → w_G_length_4 z mi mc ms post (w.length + 1) kc ks g M.gr (nI (u.filter (tb G G.ne)).length) (nI u.length) := by
    intro w
    induction w with
    | nil =>
      intro u htu kc ks hk hk'
      rw [List.append_nil] at htu
      unfold w_G_length_4
      (refine ⟨?_, ?_⟩; (focus (first | exact hasI_of (by assumption) (by decide) | exact hasR_of (by assumption) (by decide))); rintro _ rfl; try rw [hno])
      refine ⟨fun _ => ?_, fun h => absurd (by rw [htu]; exact Int32.le_refl _) h⟩
      rw [← htu, ← htx]
      exact k
    | cons x w ih =>
      intro u htu kc ks hk hk'
      obtain ⟨e, rfl, he, hie⟩ := hpos x (by rw [htu]; simp)
      have hul : u.length < t.length := by
        rw [htu, List.length_append, List.length_cons]
        omega
      have hget : aI g (M.f 50) u.length = nI e := hod u.length e (by rw [htu]; exact get_mid)
      have nxt : t = (u ++ [e + 1]) ++ w := by rw [htu]; simp
      have hI := ih (u ++ [e + 1]) nxt kc ks hk hk'
      rw [List.filter_append, List.length_append, List.length_append] at hI
      show w_G_length_4 z mi mc ms post ((w.length + 1) + 1) kc ks g M.gr _ _
      unfold w_G_length_4
      (refine ⟨?_, ?_⟩; (focus (first | exact hasI_of (by assumption) (by decide) | exact hasR_of (by assumption) (by decide))); rintro _ rfl; try rw [hno])
      refine ⟨fun h => absurd ((lI (by omega) (by omega)).mp h) (by omega), fun _ => ?_⟩
      (refine ⟨?_, ?_⟩; (focus (first | exact hasI_of (by assumption) (by decide) | exact hasR_of (by assumption) (by decide))); rintro _ rfl; try rw [hR.f.f 50 (by decide)])
      refine ⟨_, rfl, ?_⟩
      (refine ⟨u.length, ⟨_, h50, rfl, by omega, by decide⟩, ?_⟩; rintro _ rfl; try rw [hget])
      refine ⟨⟨_, _, by assumption, by decide⟩, 0, 0, by omega, by omega, ?_⟩
      refine t_isShown hw hR he hie (fun hs => ⟨fun h => absurd h (by decide), fun _ => ?_⟩) (fun hs => ⟨fun _ => ?_, fun h => absurd rfl h⟩)
      · rw [List.filter_cons_of_pos (tb_s.mpr hs)] at hI
        rw [nI_1, nI_1]
        exact hI
      · rw [List.filter_cons_of_neg (fun h => hs (tb_s.mp h))] at hI
        rw [nI_1]
        exact hI
  unfold w_G_length
  exact ⟨_, loop t [] rfl 0 0 (by omega) (by omega)⟩
theorem t_shownAt (hw : WF G) (hR : RM G M g) {i : Nat} (hi : i < txL G G.ne) {post : Int32 → Sg → Prop} (k : ∀ e, (tx G G.ne)[i]? = some (e + 1) → e < G.ne → G.ins e = true → post (nI e) g) : w_G_shownAt z mi mc ms post g M.gr (nI i) := by
  have h1 := hR.k.gr
  have h50 := hR.kf 50 (by decide) rfl
  obtain ⟨t, ht, htl, hno, hod, hpos⟩ := hR.row hw
  have htx : tx G G.ne = t.filter (tb G G.ne) := by
    unfold tx
    rw [ht, List.filter_cons_of_neg (by rw [tb_0]; decide)]
  have hil : i ≤ 8193 := by
    have := txL_le (n := G.ne) hw
    omega
  have loop : ∀ (w u : List Nat) (j : Nat), t = u ++ w → (u.filter (tb G G.ne)).length + j = i → j < (w.filter (tb G G.ne)).length → ∀ kc ks, kc ≤ mc → ks ≤ ms → w_G_shownAt_4 z mi mc ms post (w.length + 1) kc ks g M.gr (nI j) (nI u.length) := by
    intro w
    induction w with
    | nil => intro u j _ _ hj; exact absurd hj (by simp)
    | cons x w ih =>
      intro u j htu hcj hj kc ks hk hk'
      obtain ⟨e, rfl, he, hie⟩ := hpos x (by rw [htu]; simp)
      have hul : u.length < 8192 := by
        rw [htu, List.length_append, List.length_cons] at htl
        omega
      have hget : aI g (M.f 50) u.length = nI e := hod u.length e (by rw [htu]; exact get_mid)
      have nxt : t = (u ++ [e + 1]) ++ w := by rw [htu]; simp
      show w_G_shownAt_4 z mi mc ms post ((w.length + 1) + 1) kc ks g M.gr (nI j) (nI u.length)
      unfold w_G_shownAt_4
      (refine ⟨?_, ?_⟩; (focus (first | exact hasI_of (by assumption) (by decide) | exact hasR_of (by assumption) (by decide))); rintro _ rfl; try rw [hR.f.f 50 (by decide)])
      refine ⟨_, rfl, ?_⟩
      (refine ⟨u.length, ⟨_, h50, rfl, by omega, by decide⟩, ?_⟩; rintro _ rfl; try rw [hget])
      refine ⟨⟨_, _, by assumption, by decide⟩, 0, 0, by omega, by omega, ?_⟩
      refine t_isShown hw hR he hie (fun hs => ⟨fun h => absurd h (by decide), fun _ => ⟨fun hj0 => ?_, fun hj0 => ?_⟩⟩) (fun hs => ⟨fun _ => ?_, fun h => absurd rfl h⟩)
      · have : j = 0 := by
          have := (lI (b := 0) (by omega) (by omega)).mp hj0
          omega
        subst this
        (refine ⟨?_, ?_⟩; (focus (first | exact hasI_of (by assumption) (by decide) | exact hasR_of (by assumption) (by decide))); rintro _ rfl; try rw [hR.f.f 50 (by decide)])
        refine ⟨_, rfl, ?_⟩
        (refine ⟨u.length, ⟨_, h50, rfl, by omega, by decide⟩, ?_⟩; rintro _ rfl; try rw [hget])
        refine k e ?_ he hie
        have hcu : i = (u.filter (tb G G.ne)).length := by omega
        rw [htx, htu, List.filter_append, List.filter_cons_of_pos (tb_s.mpr hs), hcu]
        exact get_mid
      · have hjp : 0 < j := by
          by_cases h : j = 0
          · rw [h] at hj0; exact absurd (Int32.le_refl _) hj0
          · omega
        obtain ⟨m, rfl⟩ : ∃ m, j = m + 1 := ⟨j - 1, by omega⟩
        unfold w_G_shownAt_21
        (refine ⟨?_, ?_⟩; (focus (first | exact hasI_of (by assumption) (by decide) | exact hasR_of (by assumption) (by decide))); rintro _ rfl; try rw [hR.f.f 50 (by decide)])
        refine ⟨_, rfl, ?_⟩
        (refine ⟨u.length, ⟨_, h50, rfl, by omega, by decide⟩, ?_⟩; rintro _ rfl; try rw [hget])
        refine ⟨⟨_, _, by assumption, by decide⟩, 0, 0, by omega, by omega, ?_⟩
        refine t_isShown hw hR he hie (fun _ => ⟨fun h => absurd h (by decide), fun _ => ?_⟩) (fun hs' => absurd hs hs')
        rw [nI_1, nI_dec]
        rw [List.filter_cons_of_pos (tb_s.mpr hs), List.length_cons] at hj
        have := ih (u ++ [e + 1]) m nxt (by rw [List.filter_append, List.length_append, List.filter_cons_of_pos (tb_s.mpr hs)]; simp; omega) (by omega) kc ks hk hk'
        rw [List.length_append] at this
        exact this
      · have hns : ¬ tb G G.ne (e + 1) = true := fun h => hs (tb_s.mp h)
        unfold w_G_shownAt_21
        (refine ⟨?_, ?_⟩; (focus (first | exact hasI_of (by assumption) (by decide) | exact hasR_of (by assumption) (by decide))); rintro _ rfl; try rw [hR.f.f 50 (by decide)])
        refine ⟨_, rfl, ?_⟩
        (refine ⟨u.length, ⟨_, h50, rfl, by omega, by decide⟩, ?_⟩; rintro _ rfl; try rw [hget])
        refine ⟨⟨_, _, by assumption, by decide⟩, 0, 0, by omega, by omega, ?_⟩
        refine t_isShown hw hR he hie (fun hs' => absurd hs' hs) (fun _ => ⟨fun _ => ?_, fun h => absurd rfl h⟩)
        rw [nI_1]
        rw [List.filter_cons_of_neg hns] at hj
        have := ih (u ++ [e + 1]) j nxt (by rw [List.filter_append, List.length_append, List.filter_cons_of_neg hns]; simp; omega) hj kc ks hk hk'
        rw [List.length_append] at this
        exact this
  unfold w_G_shownAt
  have hi' : i < (t.filter (tb G G.ne)).length := by rw [← htx]; exact hi
  exact ⟨_, loop t [] i rfl (by simp) hi' 0 0 (by omega) (by omega)⟩
end MT
