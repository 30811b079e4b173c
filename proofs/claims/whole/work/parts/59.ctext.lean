section CX
variable {z mi mc ms : Nat} {G G2 : AG} {A : CA} {g g1 g2 : Sg} {L : List Nat} {V W : Nat → Nat}
def tb (G : AG) (n x : Nat) : Bool := decide (x ≠ 0 ∧ st G n (x - 1))
theorem tb_0 {n : Nat} : tb G n 0 = false := by simp [tb]
theorem tb_s {n e : Nat} : tb G n (e + 1) = true ↔ st G n e := by simp [tb]
def tx (G : AG) (n : Nat) : List Nat := (od G).filter (tb G n)
theorem tx_len {n : Nat} : (tx G n).length = txL G n := rfl
theorem txL_le (hw : WF G) {n : Nat} : txL G n ≤ 8193 := Nat.le_trans (List.length_filter_le _ _) (od_len hw)
theorem last_min : ∀ (l : List Nat), l.Pairwise (fun x y => y < x) → ∀ m, l.getLast? = some m → ∀ d ∈ l, m ≤ d := by
  intro l
  induction l with
  | nil => intro _ m h; cases h
  | cons x l ih =>
    intro hp m hm d hd
    have hp' := List.pairwise_cons.mp hp
    cases l with
    | nil =>
      rw [List.getLast?_singleton] at hm
      rcases List.mem_cons.mp hd with rfl | hd
      · cases hm; exact Nat.le_refl _
      · cases hd
    | cons y l =>
      rw [List.getLast?_cons_cons] at hm
      rcases List.mem_cons.mp hd with rfl | hd
      · have := hp'.1 m (List.mem_of_getLast? hm)
        omega
      · exact ih hp'.2 m hm d hd
theorem t_isInText (hw : WF G) (hR : RC z G A g) {e n : Nat} (he : e < G.ne) (hi : G.ins e = true) (hn : n ≤ G.ne) {post : Int32 → Sg → Prop} (k1 : st G n e → post 1 g) (k0 : ¬ st G n e → post 0 g) : w_N_isInTextOf z mi mc ms post g (A.ea e) (nI n) := by
  have hk := hR.k.ea e he
  rw [if_pos hi] at hk
  have hne := hw.ne_le
  unfold w_N_isInTextOf
  (refine ⟨?_, ?_⟩; (focus (first | exact hasI_of (by assumption) (by decide) | exact hasR_of (by assumption) (by decide))); rintro _ rfl; try rw [hR.e.ar e he])
  rw [lI (by omega) (by omega)]
  refine ⟨fun h => k0 (fun h' => by have := h'.1; omega), fun h => ?_⟩
  refine ⟨hasI_of hk (by decide), ?_⟩
  rintro _ rfl
  rw [hR.d.fc e he hi]
  cases hd : (G.de e).getLast? with
  | none =>
    have hnil : G.de e = [] := List.getLast?_eq_none_iff.mp hd
    have e1 : (1000000 : Int32) < nI n ↔ 1000000 < n := tI (a := 1000000) (by omega) (by omega)
    show ((1000000 : Int32) < nI n → _) ∧ (¬ (1000000 : Int32) < nI n → _)
    rw [e1]
    exact ⟨fun h => absurd h (by omega), fun _ => k1 ⟨by omega, fun d hd' => by rw [hnil] at hd'; cases hd'⟩⟩
  | some d =>
    have hdm := List.mem_of_getLast? hd
    have hdl := (hw.de_lt e d hdm).2.1
    show (nI d < nI n → _) ∧ (¬ nI d < nI n → _)
    rw [tI (by omega) (by omega)]
    refine ⟨fun h' => k0 (fun h2 => h2.2 d hdm h'), fun h' => k1 ⟨by omega, fun d' hd' => ?_⟩⟩
    have := last_min _ (hw.de_srt e) d hd d' hd'
    omega
theorem st_0 (hw : WF G) : txL G 0 = 0 := by
  unfold txL
  rw [List.length_eq_zero_iff, List.filter_eq_nil_iff]
  intro x hx h
  have := (of_decide_eq_true h).2.1
  omega
theorem t_lengthAfter (hw : WF G) (hR : RC z G A g) {n : Nat} (hn : n ≤ G.ne) {post : Int32 → Sg → Prop} (k : post (nI (txL G n)) g) : w_C_lengthAfter z mi mc ms post g A.c (nI n) := by
  have hc := hR.k.c
  have hne := hw.ne_le
  unfold w_C_lengthAfter
  rw [zI (by omega)]
  refine ⟨fun h => ?_, fun h => ?_⟩
  · obtain ⟨m, rfl⟩ : ∃ m, n = m + 1 := ⟨n - 1, by omega⟩
    (refine ⟨?_, ?_⟩; (focus (first | exact hasI_of (by assumption) (by decide) | exact hasR_of (by assumption) (by decide))); rintro _ rfl; try rw [hR.f.arr])
    refine ⟨_, rfl, ?_⟩
    refine ⟨⟨_, _, hR.k.arr, by decide⟩, 0, 0, by omega, by omega, ?_⟩
    rw [nI_pred]
    refine t_get hR.k.arr hR.l.n hR.l.d hR.l.row (by omega) ?_
    refine ⟨_, rfl, hR.isE (by omega), hR.hI (by omega) (by decide), ?_⟩
    rintro _ rfl
    rw [hR.t.2 m (by omega)]
    exact k
  · subst h
    rw [st_0 hw] at k
    exact k
theorem nI_dec (n : Nat) : nI (n + 1) + (-1) = nI n := by
  have h := nI_pred n
  rw [Int32.sub_eq_add_neg] at h
  exact h
theorem t_textNode (hw : WF G) (hR : RC z G A g) {n : Nat} (hn : n ≤ G.ne) {y : Int32} {post : Option Nat → Sg → Prop} (k1 : ∀ j e, y = nI j → j < 2 ^ 31 → (tx G n)[j]? = some (e + 1) → e < G.ne → G.ins e = true → post (some (A.ea e)) g) (k0 : (∀ j, y = nI j → j < 2 ^ 31 → (tx G n).length ≤ j) → post none g) : w_C_textNode z mi mc ms post g A.c (nI n) y := by
  have hc := hR.k.c
  have hlen := txL_le (n := n) hw
  have loop : ∀ (v : List Nat), (∀ y ∈ v, ∃ e, y = e + 1 ∧ e < G.ne ∧ G.ins e = true) → ∀ o j, chn (fR g 18) o (v.map (nd A)) → j ≤ 2000000 → (∀ e, (v.filter (tb G n))[j]? = some (e + 1) → e < G.ne → G.ins e = true → post (some (A.ea e)) g) → ((v.filter (tb G n)).length ≤ j → post none g) → ∀ kc ks, kc ≤ mc → ks ≤ ms → w_C_textNode_26 z mi mc ms post (v.length + 1) kc ks g (nI n) (nI j) o := by
    intro v
    induction v with
    | nil =>
      intro _ o j ho _ _ q0 kc ks hk hk'
      have : o = none := ho
      subst this
      unfold w_C_textNode_26
      exact ⟨fun _ => q0 (Nat.zero_le _), (fun _ h => nomatch h)⟩
    | cons y v ih =>
      intro hl o j ho hj q1 q0 kc ks hk hk'
      obtain ⟨rfl, ho2⟩ := ho
      obtain ⟨e, rfl, he, hi⟩ := hl y List.mem_cons_self
      have hke := hR.k.ea e he
      rw [if_pos hi] at hke
      show w_C_textNode_26 z mi mc ms post ((v.length + 1) + 1) kc ks g (nI n) (nI j) (some (A.ea e))
      unfold w_C_textNode_26
      refine ⟨(fun h => nomatch h), ?_⟩
      rintro _ ⟨⟩
      refine ⟨⟨_, _, by assumption, by decide⟩, 0, 0, by omega, by omega, ?_⟩
      refine t_isInText hw hR he hi hn (fun hs => ⟨fun h => absurd h (by decide), fun _ => ?_⟩) (fun hs => ⟨fun _ => ?_, fun h => absurd rfl h⟩)
      · have hp : ((e + 1) :: v).filter (tb G n) = (e + 1) :: v.filter (tb G n) := List.filter_cons_of_pos (tb_s.mpr hs)
        rw [hp] at q1 q0
        rw [zI hj]
        refine ⟨fun h => ?_, fun h => ?_⟩
        · obtain ⟨m, rfl⟩ : ∃ m, j = m + 1 := ⟨j - 1, by omega⟩
          (refine ⟨?_, ?_⟩; (focus (first | exact hasI_of (by assumption) (by decide) | exact hasR_of (by assumption) (by decide))); rintro _ rfl)
          rw [nI_dec]
          refine ih (fun x hx => hl x (List.mem_cons_of_mem _ hx)) _ m ho2 (by omega) (fun e' h' => q1 e' h') (fun h' => q0 (by rw [List.length_cons]; omega)) kc ks hk hk'
        · subst h
          exact q1 e rfl he hi
      · have hno : ¬ tb G n (e + 1) = true := fun h => hs (tb_s.mp h)
        have hp : ((e + 1) :: v).filter (tb G n) = v.filter (tb G n) := List.filter_cons_of_neg hno
        rw [hp] at q1 q0
        (refine ⟨?_, ?_⟩; (focus (first | exact hasI_of (by assumption) (by decide) | exact hasR_of (by assumption) (by decide))); rintro _ rfl)
        exact ih (fun x hx => hl x (List.mem_cons_of_mem _ hx)) _ j ho2 hj q1 q0 kc ks hk hk'
  obtain ⟨t, ht⟩ := od_cons hw
  have htx : tx G n = t.filter (tb G n) := by
    unfold tx
    rw [ht, List.filter_cons_of_neg (by rw [tb_0]; decide)]
  unfold w_C_textNode
  refine ⟨fun h => k0 (fun j hj hj2 => by rw [hj] at h; exact absurd h (nI_pos hj2)), fun h => ?_⟩
  obtain ⟨j, hj, rfl⟩ := nI_of h
  refine ⟨⟨_, _, by assumption, by decide⟩, 0, 0, by omega, by omega, ?_⟩
  refine t_lengthAfter hw hR hn ?_
  rw [nI_ltI hj (by omega)]
  refine ⟨fun hlt => ?_, fun hlt => k0 (fun j' e' hj' => ?_)⟩
  · (refine ⟨?_, ?_⟩; (focus (first | exact hasI_of (by assumption) (by decide) | exact hasR_of (by assumption) (by decide))); rintro _ rfl; try rw [hR.f.rt])
    refine ⟨_, rfl, ?_⟩
    have hrt := hR.k.rt
    refine ⟨hasR_of hrt (by decide), ?_⟩
    rintro _ rfl
    have hcn : chn (fR g 18) (fR g 18 A.rt) (t.map (nd A)) := by
      have := hR.o.1
      change chn _ _ ((od G).map (nd A)) at this
      rw [ht, List.map_cons] at this
      exact this.2
    refine ⟨_, loop t (od_pos (u := []) (x := 0) hw ht) _ j hcn (by omega) (fun e he => ?_) (fun h' => ?_) 0 0 (by omega) (by omega)⟩
    · exact k1 j e rfl hj (by rw [htx]; exact he)
    · rw [← htx, tx_len] at h'
      omega
  · have := (nI_eq hj hj').mp e'
    rw [tx_len]; omega
theorem t_haveCome (hw : WF G) (hR : RC z G A g) {y : Int32} {post : Int32 → Sg → Prop} (k1 : ∀ n, n ≤ G.ne → y = nI n → post 1 g) (k0 : (∀ n, n ≤ G.ne → y ≠ nI n) → post 0 g) : w_C_haveCome z mi mc ms post g A.c y := by
  have hc := hR.k.c
  have hne := hw.ne_le
  unfold w_C_haveCome
  refine ⟨fun h => k0 (fun n hn e => by rw [e] at h; exact nI_pos (by omega) h), fun h => ?_⟩
  obtain ⟨j, hj, rfl⟩ := nI_of h
  (refine ⟨?_, ?_⟩; (focus (first | exact hasI_of (by assumption) (by decide) | exact hasR_of (by assumption) (by decide))); rintro _ rfl; try rw [hR.f.arr])
  refine ⟨_, rfl, ?_⟩
  refine ⟨⟨_, _, hR.k.arr, by decide⟩, 0, 0, by omega, by omega, ?_⟩
  refine t_size hR.k.arr hR.l.n ?_
  rw [nI_ltI (by omega) hj]
  exact ⟨fun h => k0 (fun n hn e => by have := (nI_eq hj (by omega)).mp e; omega), fun h => k1 j (by omega) rfl⟩
def tA (G : AG) (n : Nat) (y : Int32) (e : Nat) : Prop := ∃ j, y = nI j ∧ j < 2 ^ 31 ∧ (tx G n)[j]? = some (e + 1)
theorem tA_uq {n : Nat} {y : Int32} {e e' : Nat} (h : tA G n y e) (h' : tA G n y e') : e = e' := by
  obtain ⟨j, h1, h2, h3⟩ := h
  obtain ⟨j', q1, q2, q3⟩ := h'
  have := (nI_eq h2 q2).mp (h1.symm.trans q1)
  subst this
  rw [h3] at q3
  cases q3; rfl
theorem tA_no {n : Nat} {y : Int32} (h : ∀ j, y = nI j → j < 2 ^ 31 → (tx G n).length ≤ j) : ∀ e, ¬ tA G n y e := by
  rintro e ⟨j, h1, h2, h3⟩
  have := h j h1 h2
  have := (List.getElem?_eq_some_iff.mp h3).1
  omega
theorem t_at (hw : WF G) (hR : RC z G A g) {y : Int32} (hmc : 1 ≤ mc) (hms : 6 ≤ ms) {post : Int32 → Sg → Prop} {px : Nat → Sg → Prop} (kx : (∀ e, ¬ tA G G.ne y e) → px 4 g) (kr : ∀ e, tA G G.ne y e → post (G.cd e) g) : w_C_at z mi mc ms post px g A.c y := by
  have hc := hR.k.c
  unfold w_C_at
  (refine ⟨?_, ?_⟩; (focus (first | exact hasI_of (by assumption) (by decide) | exact hasR_of (by assumption) (by decide))); rintro _ rfl; try rw [hR.f.arr])
  refine ⟨_, rfl, ?_⟩
  refine ⟨⟨_, _, hR.k.arr, by decide⟩, 0, 0, by omega, by omega, ?_⟩
  refine t_size hR.k.arr hR.l.n ?_
  refine ⟨⟨_, _, by assumption, by decide⟩, 0, 0, by omega, by omega, ?_⟩
  refine t_textNode hw hR (Nat.le_refl _) (fun j e h1 h2 h3 he hi => ⟨(fun h => nomatch h), ?_⟩) (fun h => ⟨fun _ => ⟨by omega, by omega, kx (tA_no h)⟩, (fun _ h => nomatch h)⟩)
  rintro _ ⟨⟩
  have hk := hR.k.ea e he
  rw [if_pos hi] at hk
  (refine ⟨?_, ?_⟩; (focus (first | exact hasI_of (by assumption) (by decide) | exact hasR_of (by assumption) (by decide))); rintro _ rfl; try rw [hR.e.cd e he hi])
  exact kr e ⟨j, h1, h2, h3⟩
theorem t_who (hw : WF G) (hR : RC z G A g) {y : Int32} (hmc : 1 ≤ mc) (hms : 6 ≤ ms) {post : Int64 → Sg → Prop} {px : Nat → Sg → Prop} (kx : (∀ e, ¬ tA G G.ne y e) → px 4 g) (kr : ∀ e, tA G G.ne y e → post ((4294967296 : Int64) * (nI (G.nm (G.sl e))).toInt64 + (nI (G.nu e)).toInt64) g) : w_C_who z mi mc ms post px g A.c y := by
  have hc := hR.k.c
  unfold w_C_who
  (refine ⟨?_, ?_⟩; (focus (first | exact hasI_of (by assumption) (by decide) | exact hasR_of (by assumption) (by decide))); rintro _ rfl; try rw [hR.f.arr])
  refine ⟨_, rfl, ?_⟩
  refine ⟨⟨_, _, hR.k.arr, by decide⟩, 0, 0, by omega, by omega, ?_⟩
  refine t_size hR.k.arr hR.l.n ?_
  refine ⟨⟨_, _, by assumption, by decide⟩, 0, 0, by omega, by omega, ?_⟩
  refine t_textNode hw hR (Nat.le_refl _) (fun j e h1 h2 h3 he hi => ⟨(fun h => nomatch h), ?_⟩) (fun h => ⟨fun _ => ⟨by omega, by omega, kx (tA_no h)⟩, (fun _ h => nomatch h)⟩)
  rintro _ ⟨⟩
  have hs := hw.sl_lt e he
  have hga := hR.k.ga _ hs
  refine ⟨hR.hR he (by decide), ?_⟩
  rintro _ rfl
  rw [hR.e.ag e he]
  refine ⟨_, rfl, ?_⟩
  (refine ⟨?_, ?_⟩; (focus (first | exact hasI_of (by assumption) (by decide) | exact hasR_of (by assumption) (by decide))); rintro _ rfl; try rw [hR.f.nm _ hs])
  refine ⟨hR.hI he (by decide), ?_⟩
  rintro _ rfl
  rw [hR.e.nu e he]
  exact kr e ⟨j, h1, h2, h3⟩
theorem t_was (hw : WF G) (hR : RC z G A g) {y : Int32} (hmc : 1 ≤ mc) (hms : 6 ≤ ms) {post : Int32 → Sg → Prop} {px : Nat → Sg → Prop} (kx : (∀ n, n ≤ G.ne → y ≠ nI n) → px 4 g) (kr : ∀ n, n ≤ G.ne → y = nI n → post (nI (txL G n)) g) : w_C_was z mi mc ms post px g A.c y := by
  have hc := hR.k.c
  unfold w_C_was
  refine ⟨⟨_, _, by assumption, by decide⟩, 0, 0, by omega, by omega, ?_⟩
  refine t_haveCome hw hR (fun n hn hy => ⟨fun _ => ?_, fun h => absurd h (by decide)⟩) (fun h => ⟨fun h => absurd rfl h, fun _ => ⟨by omega, by omega, kx h⟩⟩)
  subst hy
  refine ⟨⟨_, _, by assumption, by decide⟩, 0, 0, by omega, by omega, ?_⟩
  exact t_lengthAfter hw hR hn (kr n hn rfl)
theorem t_wasAt (hw : WF G) (hR : RC z G A g) {x y : Int32} (hmc : 1 ≤ mc) (hms : 6 ≤ ms) {post : Int32 → Sg → Prop} {px : Nat → Sg → Prop} (kx : (∀ n e, n ≤ G.ne → x = nI n → ¬ tA G n y e) → px 4 g) (kr : ∀ n e, n ≤ G.ne → x = nI n → tA G n y e → post (G.cd e) g) : w_C_wasAt z mi mc ms post px g A.c x y := by
  have hc := hR.k.c
  have hne := hw.ne_le
  unfold w_C_wasAt
  refine ⟨⟨_, _, by assumption, by decide⟩, 0, 0, by omega, by omega, ?_⟩
  refine t_haveCome hw hR (fun n hn hx => ⟨fun h => absurd h (by decide), fun _ => ?_⟩) (fun h => ⟨fun _ => ⟨by omega, by omega, kx (fun n e hn hx => absurd hx (h n hn))⟩, fun h => absurd rfl h⟩)
  subst hx
  refine ⟨⟨_, _, by assumption, by decide⟩, 0, 0, by omega, by omega, ?_⟩
  refine t_textNode hw hR hn (fun j e h1 h2 h3 he hi => ⟨(fun h => nomatch h), ?_⟩) (fun h => ⟨fun _ => ⟨by omega, by omega, kx (fun n' e hn' hx => ?_)⟩, (fun _ h => nomatch h)⟩)
  · rintro _ ⟨⟩
    have hk := hR.k.ea e he
    rw [if_pos hi] at hk
    (refine ⟨?_, ?_⟩; (focus (first | exact hasI_of (by assumption) (by decide) | exact hasR_of (by assumption) (by decide))); rintro _ rfl; try rw [hR.e.cd e he hi])
    exact kr n e hn rfl ⟨j, h1, h2, h3⟩
  · have : n = n' := (eI (by omega) (by omega)).mp hx
    subst this
    exact tA_no h e
theorem t_spot (hw : WF G) (hR : RC z G A g) {x y : Int32} (hmc : 1 ≤ mc) (hms : 6 ≤ ms) {post : Int32 → Sg → Prop} {px : Nat → Sg → Prop} (k0 : (∀ e, ¬ fE G x y e) → px 0 g) (k1 : ∀ e, fE G x y e → G.ins e = false → px 1 g) (kr : ∀ e u v, fE G x y e → G.ins e = true → od G = 0 :: (u ++ (e + 1) :: v) → post (nI u.length) g) : w_C_spot z mi mc ms post px g A.c x y := by
  have hc := hR.k.c
  unfold w_C_spot
  refine ⟨⟨_, _, by assumption, by decide⟩, 0, 0, by omega, by omega, ?_⟩
  refine t_findE hw hR (fun e hE he => ⟨(fun h => nomatch h), ?_⟩) (fun h => ⟨fun _ => ⟨by omega, by omega, k0 h⟩, (fun _ h => nomatch h)⟩)
  rintro _ ⟨⟩
  have hk := hR.k.ea e he
  cases hi : G.ins e with
  | false =>
    rw [if_neg (by rw [hi]; decide)] at hk
    exact ⟨6, Or.inr ⟨hk, fun _ => ⟨by omega, by omega, k1 e hE hi⟩, fun h => absurd rfl h⟩⟩
  | true =>
    rw [if_pos hi] at hk
    refine ⟨13, Or.inl ⟨hk, fun h => absurd h (by decide), fun _ => ⟨⟨_, _, hk, by decide⟩, ⟨_, _, hc, by decide⟩, 0, 0, by omega, by omega, ?_⟩⟩⟩
    have hm : e + 1 ∈ od G := (hw.mem _).mpr (Or.inr ⟨e, rfl, he, hi⟩)
    obtain ⟨t, ht⟩ := od_cons hw
    have hmt : e + 1 ∈ t := by
      rw [ht] at hm
      rcases List.mem_cons.mp hm with h | h
      · omega
      · exact h
    obtain ⟨u, v, htu⟩ := List.append_of_mem hmt
    have hnd := hw.nodup
    rw [ht, htu] at hnd
    have hne : ∀ y ∈ u, y ≠ e + 1 := fun y hy h => (List.nodup_append.mp (List.nodup_cons.mp hnd).2).2.2 y hy (e + 1) List.mem_cons_self h
    have hpos := od_pos (u := []) (x := 0) hw ht
    have hev : ∀ y ∈ u, y ∈ od G := fun y hy => by rw [ht, htu]; exact List.mem_cons_of_mem _ (List.mem_append_left _ hy)
    have loop : ∀ (u : List Nat), (∀ y ∈ u, y ≠ e + 1 ∧ y ∈ od G) → ∀ o j, chn (fR g 18) o ((u ++ (e + 1) :: v).map (nd A)) → post (nI (j + u.length)) g → ∀ mc ms kc ks, w_C_countBefore_10 z mi mc ms post (u.length + 1) kc ks g (some (A.ea e)) (nI j) o := by
      intro u
      induction u with
      | nil =>
        intro _ o j ho k mc ms kc ks
        obtain ⟨rfl, -⟩ := ho
        unfold w_C_countBefore_10
        refine ⟨(fun h => nomatch h), ?_⟩
        rintro _ ⟨⟩
        exact ⟨fun _ => k, fun h => absurd rfl h⟩
      | cons y u ih =>
        intro hl o j ho k mc ms kc ks
        obtain ⟨rfl, ho2⟩ := ho
        obtain ⟨h1, h2⟩ := hl y List.mem_cons_self
        have hky := hR.kN hw h2
        show w_C_countBefore_10 z mi mc ms post ((u.length + 1) + 1) kc ks g (some (A.ea e)) (nI j) (some (nd A y))
        unfold w_C_countBefore_10
        refine ⟨(fun h => nomatch h), ?_⟩
        rintro _ ⟨⟩
        refine ⟨fun h => absurd (nd_inj hw hR h2 hm (Option.some.inj h)) h1, fun _ => ?_⟩
        (refine ⟨?_, ?_⟩; (focus (first | exact hasI_of (by assumption) (by decide) | exact hasR_of (by assumption) (by decide))); rintro _ rfl)
        rw [nI_1]
        refine ih (fun q hq => hl q (List.mem_cons_of_mem _ hq)) _ (j + 1) ho2 ?_ mc ms kc ks
        have : j + 1 + u.length = j + (y :: u).length := by rw [List.length_cons]; omega
        rw [this]; exact k
    unfold w_C_countBefore
    (refine ⟨?_, ?_⟩; (focus (first | exact hasI_of (by assumption) (by decide) | exact hasR_of (by assumption) (by decide))); rintro _ rfl; try rw [hR.f.rt])
    refine ⟨_, rfl, ?_⟩
    have hrt := hR.k.rt
    refine ⟨hasR_of hrt (by decide), ?_⟩
    rintro _ rfl
    have hcn : chn (fR g 18) (fR g 18 A.rt) ((u ++ (e + 1) :: v).map (nd A)) := by
      have := hR.o.1
      change chn _ _ ((od G).map (nd A)) at this
      rw [ht, htu, List.map_cons] at this
      exact this.2
    refine ⟨_, loop u (fun y hy => ⟨hne y hy, hev y hy⟩) _ 0 hcn ?_ 0 0 0 0⟩
    rw [Nat.zero_add]
    exact kr e u v hE hi (by rw [ht, htu])
theorem t_events (hw : WF G) (hR : RC z G A g) {x : Int32} (hmc : 1 ≤ mc) (hms : 6 ≤ ms) {post : Int32 → Sg → Prop} {px : Nat → Sg → Prop} (k1 : x = -1 → post (nI G.ne) g) (kx : x ≠ -1 → (∀ a, a ≤ 255 → x ≠ nI a) → px 3 g) (k2 : ∀ s, s < G.na → nI (G.nm s) = x → post (nI (G.ct s)) g) (k3 : ∀ a, a ≤ 255 → x = nI a → (∀ s, s < G.na → nI (G.nm s) ≠ x) → post 0 g) : w_C_events z mi mc ms post px g A.c x := by
  have hc := hR.k.c
  have b255 : (255 : Int32) = nI 255 := rfl
  unfold w_C_events
  refine ⟨fun hx => ?_, fun hx => ?_⟩
  · refine ⟨0, 0, by omega, by omega, ?_⟩
    unfold w_C_isName
    refine ⟨fun h => ⟨fun h' => absurd rfl h', fun _ => ⟨by omega, by omega, kx hx (fun a ha e => by rw [e] at h; exact nI_pos (by omega) h)⟩⟩, fun h => ⟨fun h2 => ⟨fun h' => absurd rfl h', fun _ => ⟨by omega, by omega, kx hx (fun a ha e => ?_)⟩⟩, fun h2 => ⟨fun _ => ?_, fun h => absurd h (by decide)⟩⟩⟩
    · rw [e, b255, nI_ltI (by omega) (by omega)] at h2
      omega
    · obtain ⟨a, ha, rfl⟩ := nI_of h
      rw [b255, nI_ltI (by omega) ha] at h2
      refine ⟨⟨_, _, by assumption, by decide⟩, 0, 0, by omega, by omega, ?_⟩
      refine t_findAgent hw hR (fun s hs hx => ⟨(fun h => nomatch h), ?_⟩) (fun hno => ⟨fun _ => k3 a (by omega) rfl hno, (fun _ h => nomatch h)⟩)
      rintro _ ⟨⟩
      have hga := hR.k.ga s hs
      (refine ⟨?_, ?_⟩; (focus (first | exact hasI_of (by assumption) (by decide) | exact hasR_of (by assumption) (by decide))); rintro _ rfl; try rw [hR.f.hl s hs])
      refine ⟨_, rfl, ?_⟩
      refine ⟨⟨_, _, hR.k.hl s hs, by decide⟩, 0, 0, by omega, by omega, ?_⟩
      exact t_size (hR.k.hl s hs) (hR.l.hn s hs) (k2 s hs hx)
  · (refine ⟨?_, ?_⟩; (focus (first | exact hasI_of (by assumption) (by decide) | exact hasR_of (by assumption) (by decide))); rintro _ rfl; try rw [hR.f.arr])
    refine ⟨_, rfl, ?_⟩
    refine ⟨⟨_, _, hR.k.arr, by decide⟩, 0, 0, by omega, by omega, ?_⟩
    exact t_size hR.k.arr hR.l.n (k1 hx)
end CX
