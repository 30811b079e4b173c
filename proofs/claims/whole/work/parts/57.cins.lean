section CI
variable {z mi mc ms : Nat} {G G2 : AG} {A : CA} {g g1 g2 : Sg} {L : List Nat} {V W : Nat → Nat}
theorem seL_le (hw : WF G) : (seL G V).length ≤ 8193 := Nat.le_trans (List.length_filter_le _ _) (od_len hw)
theorem edP.lv {q m s b : Nat} {A2 : CA} (hK : RCk G A (hT g)) (h : lv g g1) (P : edP q m s b G A A2 g1 g2) : edP q m s b G A A2 g g2 := edP.mk ((h.fc _).trans P.fc) (P.l.trans (h.i _ (nn hK.c) 27)) P.c P.vw P.li P.hc P.po P.bf
theorem before_new (hw : WF G) (hR : RC z G A g) (hV : RCv A V g) (hb : ∀ t, t < 16 → V t ≤ 8192) {s b : Nat} (ok : okE G s V) (hbn : hT g b = none) : lv g (cI (nO g b 100 16) b (aI g A.vw)) ∧ WI z G A (cI (nO g b 100 16) b (aI g A.vw)) s V V b := by
  have hlv : lv g (cI (nO g b 100 16) b (aI g A.vw)) := ((lv.refl g).nO hbn).cI hbn
  have hvb : A.vw ≠ b := lv_ne hbn _ (nn hR.k.vw)
  refine ⟨hlv, WI.mk hw (hR.lv hw hlv) (RCv.lv hR.k hV hlv) (hT9 _ _ _ _) (fun t ht => ?_) (Ne.symm hvb) hb ok.s (by rw [ok.own]; exact Nat.le_refl _) (fun _ _ => rfl)⟩
  rw [aI_cI]; exact hV t ht
theorem t_weaveIn (hw : WF G) (hR : RC z G A g) (hV : RCv A V g) (hb : ∀ t, t < 16 → V t ≤ 8192) {s i n : Nat} {code : Int32} (ok : okE G s V) (hi : i ≤ (seL G V).length) (hn : n ≤ 100) (hne : G.ne + n ≤ 8192) (hmc : 1 + 3 * n ≤ mc) (hms : 16 + wcost 13 n (A.hc s) (G.ct s) A.ac G.ne ≤ ms) {post : Sg → Prop}
    (k : ∀ G2 A2 g2, runI n G s V i code 0 G2 → WF G2 → RC z G2 A2 g2 → (∃ b, hT g b = none ∧ edP 13 n s b G A A2 g g2) → post g2) : w_C_weaveIn z mi mc ms post g A.c (some (A.ga s)) (nI i) code (nI n) := by
  have hc := hR.k.c
  unfold w_C_weaveIn
  (refine ⟨?_, ?_⟩; (focus (first | exact hasI_of (by assumption) (by decide) | exact hasR_of (by assumption) (by decide))); rintro _ rfl; try rw [hR.f.vw])
  refine ⟨_, rfl, ?_⟩
  refine ⟨16, hR.k.vw, by omega, by omega, fun b hbn => ?_⟩
  rintro _ rfl
  obtain ⟨hlv, hI⟩ := before_new hw hR hV hb ok hbn
  refine ⟨⟨16, hT9 _ _ _ _⟩, ⟨_, _, hI.r.k.c, by decide⟩, 0, 0, by omega, by omega, ?_⟩
  refine t_seenNode hw hI.r hI.v hb hi (fun u x v o c z0 p0 => ⟨n + 1, ?_⟩)
  refine t_weave (by omega) n 0 G A _ V x i _ _ (by omega) hI ⟨u, v, o, c, z0, p0⟩ (Or.inl rfl) (fun _ => ok) hne (by omega) (by omega) (fun G2 A2 g2 h1 h2 h3 h4 => k G2 A2 g2 h1 h2 h3 ⟨_, hbn, h4.lv hR.k hlv⟩)
theorem t_cutOut (hw : WF G) (hR : RC z G A g) (hV : RCv A V g) (hb : ∀ t, t < 16 → V t ≤ 8192) {s i n : Nat} (ok : okE G s V) (hn1 : 1 ≤ n) (hi : i + n ≤ (seL G V).length) (hn : n ≤ 100) (hne : G.ne + n ≤ 8192) (hmc : 1 + 3 * n ≤ mc) (hms : 16 + wcost 6 n (A.hc s) (G.ct s) A.ac G.ne ≤ ms) {post : Sg → Prop}
    (k : ∀ G2 A2 g2, runD n G s V i G2 → WF G2 → RC z G2 A2 g2 → (∃ b, hT g b = none ∧ edP 6 n s b G A A2 g g2) → post g2) : w_C_cutOut z mi mc ms post g A.c (some (A.ga s)) (nI i) (nI n) := by
  have hc := hR.k.c
  unfold w_C_cutOut
  (refine ⟨?_, ?_⟩; (focus (first | exact hasI_of (by assumption) (by decide) | exact hasR_of (by assumption) (by decide))); rintro _ rfl; try rw [hR.f.vw])
  refine ⟨_, rfl, ?_⟩
  refine ⟨16, hR.k.vw, by omega, by omega, fun b hbn => ?_⟩
  rintro _ rfl
  obtain ⟨hlv, hI⟩ := before_new hw hR hV hb ok hbn
  refine ⟨⟨16, hT9 _ _ _ _⟩, ⟨_, _, hI.r.k.c, by decide⟩, 0, 0, by omega, by omega, ?_⟩
  rw [nI_1]
  refine t_seenNode hw hI.r hI.v hb (n := i + 1) (by omega) (fun u x v o c z0 p0 => ⟨n + 1, ?_⟩)
  have hx := p0 (by omega)
  have hcu : (u.filter (sb G V)).length = i := by
    rw [List.filter_append, List.length_append, List.filter_cons_of_pos hx] at c
    simp at c
    omega
  refine t_cut (by omega) n 0 G A _ V _ i _ _ (by omega) hI (fun _ => ⟨u, x, v, rfl, o, hcu, hx, fun _ _ => rfl, ?_⟩) (fun _ => ok) hne (by omega) (by omega) (fun G2 A2 g2 h1 h2 h3 h4 => k G2 A2 g2 h1 h2 h3 ⟨_, hbn, h4.lv hR.k hlv⟩)
  have e1 : seL G V = u.filter (sb G V) ++ x :: v.filter (sb G V) := by
    unfold seL
    rw [o, List.filter_append, List.filter_cons_of_pos hx]
  rw [e1, List.length_append, List.length_cons] at hi
  omega
def oE (ok2 : Nat → Prop) (lim : Nat → Nat → Prop) (run : Nat → Nat → Nat → AG → Prop) (G : AG) (L : List Nat) (x y w : Int32) (r : Nat) (G2 : AG) : Prop :=
  (r = 3 ∧ G2 = G ∧ ∀ a i n, arg1 x y w a i n → ¬ ok2 n) ∨ ∃ a i n, arg1 x y w a i n ∧ ok2 n ∧ ((r = 1 ∧ G2 = G ∧ ¬ go1 G L x) ∨ (go1 G L x ∧ ((r = 4 ∧ G2 = G ∧ ¬ lim i n) ∨ (lim i n ∧ ((r = 2 ∧ G2 = G ∧ ¬ rm1 G x n) ∨ (r = 5 ∧ rm1 G x n ∧ run a i n G2))))))
abbrev oI (G : AG) (L : List Nat) (x y c w : Int32) : Nat → AG → Prop := oE (arg2 c) (fun i _ => i ≤ (seL G (vL G L)).length) (fun a i n G2 => ∃ s G0, au G a G0 s ∧ runI n G0 s (vL G L) i c 0 G2) G L x y w
abbrev oD (G : AG) (L : List Nat) (x y w : Int32) : Nat → AG → Prop := oE (fun _ => True) (fun i n => i + n ≤ (seL G (vL G L)).length) (fun a i n G2 => ∃ s G0, au G a G0 s ∧ runD n G0 s (vL G L) i G2) G L x y w
theorem oE_uq {ok2 : Nat → Prop} {lim : Nat → Nat → Prop} {run : Nat → Nat → Nat → AG → Prop} {x y w : Int32} {r r' : Nat} {G2 G3 : AG} (hr : ∀ a i n G2 G3, arg1 x y w a i n → go1 G L x → rm1 G x n → run a i n G2 → run a i n G3 → G2 = G3) (h : oE ok2 lim run G L x y w r G2) (h' : oE ok2 lim run G L x y w r' G3) : r = r' ∧ G2 = G3 := by
  rcases h with ⟨p1, p2, p3⟩ | ⟨a, i, n, p1, p2, p3⟩
  · rcases h' with ⟨q1, q2, -⟩ | ⟨a, i, n, q1, q2, -⟩
    · exact ⟨p1.trans q1.symm, p2.trans q2.symm⟩
    · exact absurd q2 (p3 a i n q1)
  · rcases h' with ⟨-, -, q3⟩ | ⟨a', i', n', q1, q2, q3⟩
    · exact absurd p2 (q3 a i n p1)
    · obtain ⟨rfl, rfl, rfl⟩ := arg1_uq p1 q1
      rcases p3 with ⟨p4, p5, p6⟩ | ⟨p6, p3⟩
      · rcases q3 with ⟨q4, q5, -⟩ | ⟨q6, -⟩
        · exact ⟨p4.trans q4.symm, p5.trans q5.symm⟩
        · exact absurd q6 p6
      · rcases q3 with ⟨-, -, q6⟩ | ⟨-, q3⟩
        · exact absurd p6 q6
        · rcases p3 with ⟨p4, p5, p7⟩ | ⟨p7, p3⟩
          · rcases q3 with ⟨q4, q5, -⟩ | ⟨q7, -⟩
            · exact ⟨p4.trans q4.symm, p5.trans q5.symm⟩
            · exact absurd q7 p7
          · rcases q3 with ⟨-, -, q7⟩ | ⟨-, q3⟩
            · exact absurd p7 q7
            · rcases p3 with ⟨p4, p5, p8⟩ | ⟨p4, p8, p5⟩
              · rcases q3 with ⟨q4, q5, -⟩ | ⟨-, q8, -⟩
                · exact ⟨p4.trans q4.symm, p5.trans q5.symm⟩
                · exact absurd q8 p8
              · rcases q3 with ⟨-, -, q8⟩ | ⟨q4, -, q5⟩
                · exact absurd p8 q8
                · exact ⟨p4.trans q4.symm, hr a i n G2 G3 p1 p6 p8 p5 q5⟩
theorem ed_ok (hw : WF G) (hL : ∀ e ∈ L, e < G.ne) {x y w : Int32} {a i n s : Nat} {G0 : AG} (h1 : arg1 x y w a i n) (h2 : go1 G L x) (h3 : rm1 G x n) (h : au G a G0 s) : WF G0 ∧ okE G0 s (vL G L) := by
  obtain ⟨q1, q2, -, -, -, q6, -⟩ := h1
  have r1 := h3.1
  refine au_ok hw hL h q2 ?_ (by omega) (fun t ht hx => (h2.2 t ht (by rw [q1, hx])).symm)
  rcases h3.2 with h | ⟨t, ht, hx⟩
  · exact Or.inl h
  · have := hw.nm_le t ht
    exact Or.inr ⟨t, ht, (eI (by omega) (by omega)).mp (hx.trans q1)⟩
theorem au_ne {x s : Nat} {G0 : AG} (h : au G x G0 s) : G0.ne = G.ne := by
  rcases h with ⟨-, -, rfl⟩ | ⟨-, -, rfl⟩ <;> rfl
theorem au_se {x s : Nat} {G0 : AG} (h : au G x G0 s) : seL G0 V = seL G V := by
  rcases h with ⟨-, -, rfl⟩ | ⟨-, -, rfl⟩ <;> rfl
theorem oI_uq (hw : WF G) (hL : ∀ e ∈ L, e < G.ne) {x y c w : Int32} {r r' : Nat} {G2 G3 : AG} (h : oI G L x y c w r G2) (h' : oI G L x y c w r' G3) : r = r' ∧ G2 = G3 := by
  refine oE_uq (fun a i n G2 G3 h1 h2 h3 h4 h5 => ?_) h h'
  obtain ⟨s, G0, q1, q2⟩ := h4
  obtain ⟨s', G0', r1, r2⟩ := h5
  obtain ⟨rfl, rfl⟩ := au_uq hw q1 r1
  obtain ⟨w0, ok⟩ := ed_ok hw hL h1 h2 h3 q1
  exact runI_uq n w0 ok (by rw [au_ne q1]; exact h3.1) q2 r2
theorem oD_uq (hw : WF G) (hL : ∀ e ∈ L, e < G.ne) {x y w : Int32} {r r' : Nat} {G2 G3 : AG} (h : oD G L x y w r G2) (h' : oD G L x y w r' G3) : r = r' ∧ G2 = G3 := by
  refine oE_uq (fun a i n G2 G3 h1 h2 h3 h4 h5 => ?_) h h'
  obtain ⟨s, G0, q1, q2⟩ := h4
  obtain ⟨s', G0', r1, r2⟩ := h5
  obtain ⟨rfl, rfl⟩ := au_uq hw q1 r1
  obtain ⟨w0, ok⟩ := ed_ok hw hL h1 h2 h3 q1
  exact runD_uq n w0 ok (by rw [au_ne q1]; exact h3.1) q2 r2
def doneP (q n s : Nat) (G G0 : AG) (A A2 : CA) (g g2 : Sg) : Prop := (fC A.vw g g2) ∧ (A2.c = A.c) ∧ (A2.vw = A.vw) ∧ (∀ t, t ≠ s → A2.hc t = A.hc t) ∧ (wcost q n (A.hc s) (G0.ct s) A.ac G.ne + 4 * A.hc s + 4 * A.ac ≤ q * n + 4 * A2.hc s + 4 * A2.ac) ∧ (∀ e, (e < G.ne → A2.bf e = A.bf e) ∧ (G.ne ≤ e → e < G.ne + n → hT g (A2.bf e) = none))
theorem doneP.fc {q n s : Nat} {G G0 : AG} {A A2 : CA} {g g2 : Sg} (h : doneP q n s G G0 A A2 g g2) : fC A.vw g g2 := h.1
theorem doneP.c {q n s : Nat} {G G0 : AG} {A A2 : CA} {g g2 : Sg} (h : doneP q n s G G0 A A2 g g2) : A2.c = A.c := h.2.1
theorem doneP.vw {q n s : Nat} {G G0 : AG} {A A2 : CA} {g g2 : Sg} (h : doneP q n s G G0 A A2 g g2) : A2.vw = A.vw := h.2.2.1
theorem doneP.hc {q n s : Nat} {G G0 : AG} {A A2 : CA} {g g2 : Sg} (h : doneP q n s G G0 A A2 g g2) : ∀ t, t ≠ s → A2.hc t = A.hc t := h.2.2.2.1
theorem doneP.po {q n s : Nat} {G G0 : AG} {A A2 : CA} {g g2 : Sg} (h : doneP q n s G G0 A A2 g g2) : wcost q n (A.hc s) (G0.ct s) A.ac G.ne + 4 * A.hc s + 4 * A.ac ≤ q * n + 4 * A2.hc s + 4 * A2.ac := h.2.2.2.2.1
theorem doneP.bf {q n s : Nat} {G G0 : AG} {A A2 : CA} {g g2 : Sg} (h : doneP q n s G G0 A A2 g g2) : ∀ e, (e < G.ne → A2.bf e = A.bf e) ∧ (G.ne ≤ e → e < G.ne + n → hT g (A2.bf e) = none) := h.2.2.2.2.2
theorem doneP.mk {q n s : Nat} {G G0 : AG} {A A2 : CA} {g g2 : Sg} (h0 : fC A.vw g g2) (h1 : A2.c = A.c) (h2 : A2.vw = A.vw) (h3 : ∀ t, t ≠ s → A2.hc t = A.hc t) (h4 : wcost q n (A.hc s) (G0.ct s) A.ac G.ne + 4 * A.hc s + 4 * A.ac ≤ q * n + 4 * A2.hc s + 4 * A2.ac) (h5 : ∀ e, (e < G.ne → A2.bf e = A.bf e) ∧ (G.ne ≤ e → e < G.ne + n → hT g (A2.bf e) = none)) : doneP q n s G G0 A A2 g g2 := ⟨h0, h1, h2, h3, h4, h5⟩
theorem t_insert (hw : WF G) (hR : RC z G A g) (hL : RCi G A L g) (hz : ∀ t, G.na ≤ t → A.hc t = 0) {x y c w : Int32} (hmc : 304 ≤ mc) (hms : 28 ≤ ms) (hms2 : ∀ a i n s G0, arg1 x y w a i n → arg2 c n → go1 G L x → i ≤ (seL G (vL G L)).length → rm1 G x n → au G a G0 s → 28 + wcost 13 n (A.hc s) (G0.ct s) A.ac G.ne ≤ ms) {post : Int32 → Sg → Prop} {px : Nat → Sg → Prop}
    (kx : ∀ r g2, oI G L x y c w r G → r ≠ 5 → RC z G A g2 → RCi G A (if r = 3 then L else []) g2 → fC A.vw g g2 → px r g2)
    (kr : ∀ G2 A2 g2, oI G L x y c w 5 G2 → WF G2 → RC z G2 A2 g2 → RCi G2 A2 [] g2 → (∃ a i n s G0, arg1 x y w a i n ∧ au G a G0 s ∧ rm1 G x n ∧ G2.ne = G.ne + n ∧ doneP 13 n s G G0 A A2 g g2) → post (nI (txL G2 G2.ne)) g2) : w_C_insert z mi mc ms post px g A.c x y c w := by
  have hc := hR.k.c
  have hb : ∀ t, t < 16 → vL G L t ≤ 8192 := fun t _ => vL_b hw hL.lt t
  unfold w_C_insert
  refine ⟨0, 0, by omega, by omega, ?_⟩
  refine t_canBeEdit (fun a i n h1 => ⟨fun h => absurd h (by decide), fun _ => ?_⟩) (fun h1 => ⟨fun _ => ⟨by omega, by omega, kx 3 g (Or.inl ⟨rfl, rfl, fun a i n h => absurd h (h1 a i n)⟩) (by decide) hR hL (fC.refl g)⟩, fun h => absurd rfl h⟩)
  obtain ⟨rfl, ha, rfl, hi, rfl, hn1, hn⟩ := id h1
  refine ⟨0, 0, by omega, by omega, ?_⟩
  refine t_areCodes hn1 hn (fun h2 => ⟨fun _ => ?_, fun h => absurd h (by decide)⟩) (fun h2 => ⟨fun h => absurd rfl h, fun _ => ⟨by omega, by omega, kx 3 g (Or.inl ⟨rfl, rfl, fun a' i' n' h => ?_⟩) (by decide) hR hL (fC.refl g)⟩⟩)
  · refine ⟨⟨_, _, hc, by decide⟩, 0, 0, by omega, by omega, ?_⟩
    refine t_takeList hw hR hL (fun h3 g2 hR2 hL2 hV2 hf2 => ⟨fun _ => ?_, fun h => absurd h (by decide)⟩) (fun h3 g2 hR2 hL2 hf2 => ⟨fun h => absurd rfl h, fun _ => ⟨by omega, by omega, kx 1 g2 (Or.inr ⟨a, i, n, h1, h2, Or.inl ⟨rfl, rfl, h3⟩⟩) (by decide) hR2 hL2 hf2⟩⟩)
    refine ⟨⟨_, _, hR2.k.c, by decide⟩, 0, 0, by omega, by omega, ?_⟩
    refine t_countSeen hw hR2 hV2 hb ?_
    have hse := seL_le (V := vL G L) hw
    rw [nI_leI hi (by omega)]
    refine ⟨fun h4 => ?_, fun h4 => ⟨by omega, by omega, kx 4 g2 (Or.inr ⟨a, i, n, h1, h2, Or.inr ⟨h3, Or.inl ⟨rfl, rfl, h4⟩⟩⟩) (by decide) hR2 hL2 hf2⟩⟩
    refine ⟨⟨_, _, hR2.k.c, by decide⟩, 0, 0, by omega, by omega, ?_⟩
    refine t_hasRoom hw hR2 hn (fun h5 => ⟨fun _ => ?_, fun h => absurd h (by decide)⟩) (fun h5 => ⟨fun h => absurd rfl h, fun _ => ⟨by omega, by omega, kx 2 g2 (Or.inr ⟨a, i, n, h1, h2, Or.inr ⟨h3, Or.inr ⟨h4, Or.inl ⟨rfl, rfl, h5⟩⟩⟩⟩) (by decide) hR2 hL2 hf2⟩⟩)
    refine ⟨⟨_, _, hR2.k.c, by decide⟩, 2, 6, by omega, by omega, ?_⟩
    have hrr : G.na < 16 ∨ ∃ t, t < G.na ∧ G.nm t = a := by
      rcases h5.2 with h | ⟨t, ht, hx⟩
      · exact Or.inl h
      · have := hw.nm_le t ht
        exact Or.inr ⟨t, ht, (eI (by omega) (by omega)).mp hx⟩
    refine t_author hw hR2 hV2 hrr ha (by omega) (by omega) (fun s G0 A0 g3 hau hw0 hR3 hV3 hf3 hl3 ec ev el ea eh eh' eb => ?_)
    obtain ⟨-, ok⟩ := ed_ok hw hL.lt h1 h3 h5 hau
    have hms3 := hms2 a i n s G0 h1 h2 h3 h4 h5 hau
    have ehs : A0.hc s = A.hc s := by
      by_cases hs : s < G.na
      · exact eh s hs
      · have := hz s (by omega)
        have := eh' s (by omega)
        omega
    have ehz : ∀ t, A0.hc t = A.hc t := fun t => by
      by_cases hs : t < G.na
      · exact eh t hs
      · have := hz t (by omega)
        have := eh' t (by omega)
        omega
    rw [← ec]
    refine ⟨⟨_, _, hR3.k.c, by decide⟩, 1 + 3 * n, 16 + wcost 13 n (A0.hc s) (G0.ct s) A0.ac G0.ne, by omega, by rw [ehs, ea, au_ne hau]; omega, ?_⟩
    refine t_weaveIn hw0 hR3 hV3 hb ok (by rw [au_se hau]; exact h4) hn (by rw [au_ne hau]; exact h5.1) (by omega) (by omega) (fun G2 A2 g4 hrun hw2 hR4 hPb => ?_)
    obtain ⟨bb, hbb, hP⟩ := hPb
    rw [← hP.c]
    refine ⟨hasI_of hR4.k.c (by decide), ?_⟩
    rintro _ rfl
    rw [hR4.t.1]
    have hne2 : ∀ (n : Nat) {G : AG} {W : Nat → Nat} {i j : Nat} {G2 : AG}, runI n G s W i c j G2 → G2.ne = G.ne + n := by
      intro n
      induction n with
      | zero => intro G W i j G2 h; rw [show G2 = G from h]; rfl
      | succ n ih =>
        intro G W i j G2 h
        obtain ⟨G1, q1, q2⟩ := h
        obtain ⟨B, p, b, l1, l2, -, -, -, -, -, -, rfl⟩ := q1
        rw [ih q2]
        show G.ne + 1 + n = _
        omega
    refine kr G2 A2 g4 (Or.inr ⟨a, i, n, h1, h2, Or.inr ⟨h3, Or.inr ⟨h4, Or.inr ⟨rfl, h5, s, G0, hau, hrun⟩⟩⟩⟩) hw2 hR4 (RCi.nil hR4 ?_) ⟨a, i, n, s, G0, h1, hau, h5, by rw [hne2 n hrun, au_ne hau], doneP.mk ?_ (hP.c.trans ec) (hP.vw.trans ev) (fun t ht => (hP.hc t ht).trans (ehz t)) ?_ (fun e => ?_)⟩
    · rw [hP.c, hP.l, ec, hl3]; exact hL2.n
    · have := hP.fc
      rw [ev] at this
      exact (hf2.trans hf3).trans this
    · have := hP.po
      rw [ehs, ea, au_ne hau] at this
      exact this
    · have ene := au_ne hau
      refine ⟨fun he => by rw [(hP.bf e).1 (by omega), eb], fun q1 q2 => ?_⟩
      · rw [(hP.bf e).2 (by omega) (by omega)]
        cases h0 : hT g bb with
        | none => rfl
        | some yy => exact absurd (((hf2.trans hf3).t _ (nn h0)).trans h0) (by rw [hbb]; exact fun h => nomatch h)
  · obtain ⟨rfl, rfl, rfl⟩ := arg1_uq h1 h
    exact h2
end CI
