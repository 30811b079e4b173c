section CE
variable {z mi mc ms : Nat} {G G2 : AG} {A : CA} {g g1 g2 : Sg} {L : List Nat} {V W : Nat → Nat}
theorem RC.w27 (hR : RC z G A g) (a : Nat) (v : Int32) : RC z G A (wI g 27 a v) := by
  refine RC.mk hR.k (RCf.lv hR.k hR.f (fun f q _ hf => by rw [fI_wI_ne _ _ _ (by omega)]) (fun _ _ _ _ => rfl) rfl) ?_ ?_ hR.s hR.o ?_ ?_
  · rw [fI_wI_ne _ _ _ (by decide)]; exact hR.l
  · rw [fI_wI_ne _ _ _ (by decide), fI_wI_ne _ _ _ (by decide), fI_wI_ne _ _ _ (by decide)]; exact hR.e
  · rw [fI_wI_ne _ _ _ (by decide)]; exact hR.d
  · rw [fI_wI_ne _ _ _ (by decide), fI_wI_ne _ _ _ (by decide)]; exact hR.t
theorem RC.sLi (hR : RC z G A g) (i : Nat) (v : Option Nat) : RC z G A (sR g A.li i v) := by
  have hne : A.ags ≠ A.li := fun e => by
    have h1 := hR.k.ags
    rw [e, hR.k.li] at h1; cases h1
  have hrow : ∀ {d cap n : Nat} {f : Nat → Nat}, rowD z (hT g) (aR g) d cap n f → rowD z (hT (sR g A.li i v)) (aR (sR g A.li i v)) d cap n f := fun {d cap n f} hh => by
    obtain ⟨r1, r2, r4, r3⟩ := hh
    refine ⟨r1, r2, r4, ?_⟩
    rcases r3 with q | ⟨q1, q2, q3⟩
    · exact Or.inl q
    · refine Or.inr ⟨q1, q2, fun i hi => ?_⟩
      rw [aR9n _ _ _ (fun e => by rw [e, hR.k.li] at q2; cases q2)]
      exact q3 i hi
  refine RC.mk hR.k (RCf.lv hR.k hR.f (fun _ _ _ _ => rfl) (fun _ _ _ _ => rfl) (aR9n _ _ _ hne)) ?_ hR.e hR.s hR.o hR.d hR.t
  exact RCl.mk hR.l.n hR.l.d (hrow hR.l.row) hR.l.hn hR.l.hd (fun s hs => hrow (hR.l.hrow s hs))
theorem RCi.nil (hR : RC z G A g) (h : fI g 27 A.c = 0) : RCi G A [] g := RCi.mk h (by decide) (fun _ h => nomatch h) List.nodup_nil (fun i e h => by cases h)
theorem fC.sRi (hli : hT g A.li = some (105, 16)) {v i : Nat} {x : Option Nat} : fC v g (sR g A.li i x) := fC.mk (fun _ _ => rfl) (fun _ _ _ _ => rfl) (fun _ _ _ _ => rfl) (fun _ _ _ => rfl) (fun a n ha => aR9n _ _ _ (fun e => by rw [e, hli] at ha; cases ha)) (fun _ _ => rfl)
theorem t_enlist (hR : RC z G A g) (hL : RCi G A L g) {e : Nat} (he : e < G.ne) (hn : e ∉ L) (hl : L.length < 16) {post : Sg → Prop} (k : ∀ g2, RC z G A g2 → RCi G A (L ++ [e]) g2 → fC A.vw g g2 → post g2) : w_C_enlist z mi mc ms post g A.c (some (A.ea e)) := by
  have hc := hR.k.c
  have hli := hR.k.li
  unfold w_C_enlist
  (refine ⟨?_, ?_⟩; (focus (first | exact hasI_of (by assumption) (by decide) | exact hasR_of (by assumption) (by decide))); rintro _ rfl; try rw [hL.n])
  have e16 : (16 : Int32) ≤ nI L.length ↔ 16 ≤ L.length := lI (a := 16) (by omega) (by omega)
  rw [e16]
  refine ⟨fun h => absurd h (by omega), fun _ => ?_⟩
  (refine ⟨?_, ?_⟩; (focus (first | exact hasI_of (by assumption) (by decide) | exact hasR_of (by assumption) (by decide))); rintro _ rfl; try rw [hR.f.li])
  refine ⟨hasI_of hc (by decide), ?_⟩
  rintro _ rfl
  try rw [hL.n]
  refine ⟨_, rfl, ?_⟩
  refine ⟨_, rfl, ?_⟩
  refine ⟨L.length, ⟨_, hli, rfl, hl, by decide⟩, hR.isE he, ?_⟩
  rintro _ rfl
  refine ⟨hasI_of (k := 4) (n := 8) hc (by decide), ?_⟩
  rintro _ rfl
  refine ⟨hasI_of (k := 4) (n := 8) hc (by decide), ?_⟩
  rintro _ rfl
  have e1 : fI (sR g A.li L.length (some (A.ea e))) 27 A.c + 1 = nI (L.length + 1) := by
    show fI g 27 A.c + 1 = _
    rw [hL.n, nI_1]
  rw [e1]
  refine k _ ((hR.sLi _ _).w27 _ _) ?_ ((fC.sRi hli).trans (fC.wIs (by decide)))
  refine RCi.mk (by rw [fI_wI]; simp) (by rw [List.length_append]; simp; omega) (fun x hx => ?_) ?_ (fun i x hx => ?_)
  · rcases List.mem_append.mp hx with h | h
    · exact hL.lt x h
    · rw [List.mem_singleton.mp h]; exact he
  · refine List.nodup_append.mpr ⟨hL.nd, List.nodup_cons.mpr ⟨(fun h => nomatch h), List.nodup_nil⟩, fun a ha b hb h => ?_⟩
    rw [List.mem_singleton.mp hb] at h
    exact hn (h ▸ ha)
  · show aR (sR g A.li L.length (some (A.ea e))) A.li i = _
    rw [aR9]
    by_cases hi : i = L.length
    · subst hi
      rw [List.getElem?_append_right (Nat.le_refl _), Nat.sub_self] at hx
      cases hx
      simp
    · simp only [hi, if_false]
      have hx' : L[i]? = some x := by
        by_cases hlt : i < L.length
        · rw [List.getElem?_append_left hlt] at hx; exact hx
        · rw [List.getElem?_append_right (by omega)] at hx
          have : i - L.length ≠ 0 := by omega
          obtain ⟨m, hm⟩ : ∃ m, i - L.length = m + 1 := ⟨i - L.length - 1, by omega⟩
          rw [hm] at hx
          cases hx
      exact hL.at i x hx'
def tg (G : AG) (L : List Nat) : Prop := ∃ e ∈ L, ∃ f ∈ L, kn G (G.pa e) f
theorem tg_no : ¬ tg G L ↔ ∀ e ∈ L, ∀ f ∈ L, ¬ kn G (G.pa e) f := ⟨fun h e he f hf hk => h ⟨e, he, f, hf, hk⟩, fun h ⟨e, he, f, hf, hk⟩ => h e he f hf hk⟩
def go1 (G : AG) (L : List Nat) (x : Int32) : Prop := ¬ tg G L ∧ ∀ s, s < G.na → nI (G.nm s) = x → G.ct s = vL G L s
theorem t_takeList (hw : WF G) (hR : RC z G A g) (hL : RCi G A L g) {x : Int32} {post : Int32 → Sg → Prop} (k1 : go1 G L x → ∀ g2, RC z G A g2 → RCi G A [] g2 → RCv A (vL G L) g2 → fC A.vw g g2 → post 1 g2) (k0 : ¬ go1 G L x → ∀ g2, RC z G A g2 → RCi G A [] g2 → fC A.vw g g2 → post 0 g2) : w_C_takeList z mi mc ms post g A.c x := by
  have hc := hR.k.c
  have hn16 := hw.na_le
  have main : ∀ (t : Int32), (t = 0 → ¬ tg G L) → (¬ t = 0 → tg G L) → ∀ (h : Nat → Int32), (∀ s, s < 16 → h s = nI (vL G L s)) →
      (hasI (cI g A.vw h) A.c 27 ∧ ∀ g19 : Sg, g19 = wI (cI g A.vw h) 27 A.c 0 → (isK g19 A.c [4] ∧ ∃ c20 c21 : Nat, ((0 + 0) + 0) + c20 ≤ mc ∧ ((0 + 0) + 0) + c21 ≤ ms ∧ w_C_findAgent z mi c20 c21 (fun (o23 : Option Nat) (g22 : Sg) => (¬ t = 0 → post (0 : Int32) g22) ∧ (t = 0 → (o23 = none → post (1 : Int32) g22) ∧ (∀ a25, o23 = some a25 → (hasR g22 a25 6 ∧ ∀ o28 : Option Nat, o28 = fR g22 6 a25 → ∃ a29, o28 = some a29 ∧ (isK g22 a29 [0] ∧ ∃ c30 c31 : Nat, (((0 + 0) + 0) + c20) + c30 ≤ mc ∧ (((0 + 0) + 0) + c21) + c31 ≤ ms ∧ w_AL_size z mi c30 c31 (fun (x33 : Int32) (g32 : Sg) => (hasR g32 A.c 25 ∧ ∀ o34 : Option Nat, o34 = fR g32 25 A.c → (hasI g32 a25 5 ∧ ∀ x35 : Int32, x35 = fI g32 5 a25 → ∃ a36, o34 = some a36 ∧ (∃ j37 : Nat, inA g32 a36 100 x35 j37 ∧ ∀ x38 : Int32, x38 = aI g32 a36 j37 → (¬ x33 = x38 → post (0 : Int32) g32) ∧ (x33 = x38 → post (1 : Int32) g32))))) g22 a29))))) g19 A.c x)) := by
    intro t ht0 ht1 h hh
    refine ⟨hasI_of (k := 4) (n := 8) hc (by decide), ?_⟩
    rintro _ rfl
    have hR2 : RC z G A (wI (cI g A.vw h) 27 A.c 0) := (hR.vw h).w27 _ _
    have hL2 : RCi G A [] (wI (cI g A.vw h) 27 A.c 0) := RCi.nil hR2 (by rw [fI_wI]; simp)
    have hV2 : RCv A (vL G L) (wI (cI g A.vw h) 27 A.c 0) := fun s hs => by
      show aI (cI g A.vw h) A.vw s = _
      rw [aI_cI]; exact hh s hs
    have hf2 : fC A.vw g (wI (cI g A.vw h) 27 A.c 0) := (fC.vw g A.vw h).trans (fC.wIs (by decide))
    refine ⟨⟨_, _, hR2.k.c, by decide⟩, 0, 0, by omega, by omega, ?_⟩
    refine t_findAgent hw hR2 (fun s hs hx => ⟨fun ht => k0 (fun hg => hg.1 (ht1 ht)) _ hR2 hL2 hf2, fun ht => ⟨(fun h => nomatch h), ?_⟩⟩) (fun hno => ⟨fun ht => k0 (fun hg => hg.1 (ht1 ht)) _ hR2 hL2 hf2, fun ht => ⟨fun _ => k1 ⟨ht0 ht, fun s hs hx => absurd hx (hno s hs)⟩ _ hR2 hL2 hV2 hf2, (fun _ h => nomatch h)⟩⟩)
    rintro _ ⟨⟩
    have hga := hR2.k.ga s hs
    have hhl := hR2.k.hl s hs
    have hvw := hR2.k.vw
    refine ⟨hasR_of hga (by decide), ?_⟩
    rintro _ rfl
    rw [hR2.f.hl s hs]
    refine ⟨_, rfl, ?_⟩
    refine ⟨⟨_, _, hhl, by decide⟩, 0, 0, by omega, by omega, ?_⟩
    refine t_size hhl (hR2.l.hn s hs) ?_
    refine ⟨hasR_of hR2.k.c (by decide), ?_⟩
    rintro _ rfl
    rw [hR2.f.vw]
    refine ⟨hasI_of hga (by decide), ?_⟩
    rintro _ rfl
    rw [hR2.f.sl s hs]
    refine ⟨_, rfl, ?_⟩
    refine ⟨s, ⟨_, hvw, rfl, by omega, by decide⟩, ?_⟩
    rintro _ rfl
    rw [hV2 s (by omega), eI (ct2M hw hs) (by have := vL_b hw hL.lt s; omega)]
    refine ⟨fun hne => k0 (fun hg => hne (hg.2 s hs hx)) _ hR2 hL2 hf2, fun he => k1 ⟨ht0 ht, fun s' hs' hx' => ?_⟩ _ hR2 hL2 hV2 hf2⟩
    have q1 := hw.nm_le s hs
    have q2 := hw.nm_le s' hs'
    have : s' = s := hw.nm_inj _ _ hs' hs ((eI (by omega) (by omega)).mp (hx'.trans hx.symm))
    rw [this]; exact he
  unfold w_C_takeList
  refine ⟨⟨_, _, by assumption, by decide⟩, 0, 0, by omega, by omega, ?_⟩
  refine t_tangled hw hR hL (fun ht => ⟨⟨_, _, hc, by decide⟩, 0, 0, by omega, by omega, t_look hw hR hL (fun h hh => ?_)⟩) (fun ht => ⟨⟨_, _, hc, by decide⟩, 0, 0, by omega, by omega, t_look hw hR hL (fun h hh => ?_)⟩)
  · exact main 1 (fun h => absurd h (by decide)) (fun _ => ht) h hh
  · exact main 0 (fun _ => tg_no.mpr ht) (fun h => absurd rfl h) h hh
def rm1 (G : AG) (x : Int32) (n : Nat) : Prop := G.ne + n ≤ 8192 ∧ (G.na < 16 ∨ ∃ s, s < G.na ∧ nI (G.nm s) = x)
theorem t_hasRoom (hw : WF G) (hR : RC z G A g) {x : Int32} {n : Nat} (hn : n ≤ 100) {post : Int32 → Sg → Prop} (k1 : rm1 G x n → post 1 g) (k0 : ¬ rm1 G x n → post 0 g) : w_C_hasRoom z mi mc ms post g A.c x (nI n) := by
  have hc := hR.k.c
  have hne := hw.ne_le
  have hna := hw.na_le
  unfold w_C_hasRoom
  (refine ⟨?_, ?_⟩; (focus (first | exact hasI_of (by assumption) (by decide) | exact hasR_of (by assumption) (by decide))); rintro _ rfl; try rw [hR.f.arr])
  refine ⟨_, rfl, ?_⟩
  refine ⟨⟨_, _, hR.k.arr, by decide⟩, 0, 0, by omega, by omega, ?_⟩
  refine t_size hR.k.arr hR.l.n ?_
  rw [nI_add]
  have e1 : (8192 : Int32) < nI (G.ne + n) ↔ 8192 < G.ne + n := tI (a := 8192) (by omega) (by omega)
  rw [e1]
  refine ⟨fun h => k0 (fun h' => by have := h'.1; omega), fun h => ?_⟩
  (refine ⟨?_, ?_⟩; (focus (first | exact hasI_of (by assumption) (by decide) | exact hasR_of (by assumption) (by decide))); rintro _ rfl; try rw [hR.f.na])
  have e2 : nI G.na < (16 : Int32) ↔ G.na < 16 := tI (b := 16) (by omega) (by omega)
  rw [e2]
  refine ⟨fun h' => k1 ⟨by omega, Or.inl h'⟩, fun h' => ?_⟩
  refine ⟨⟨_, _, by assumption, by decide⟩, 0, 0, by omega, by omega, ?_⟩
  refine t_findAgent hw hR (fun s hs hx => ⟨(fun h => nomatch h), fun _ _ => k1 ⟨by omega, Or.inr ⟨s, hs, hx⟩⟩⟩) (fun hno => ⟨fun _ => k0 (fun h2 => ?_), (fun _ h => nomatch h)⟩)
  rcases h2.2 with h3 | ⟨s, hs, hx⟩
  · exact h' h3
  · exact hno s hs hx
def arg1 (x y w : Int32) (a i n : Nat) : Prop := x = nI a ∧ a ≤ 255 ∧ y = nI i ∧ i < 2 ^ 31 ∧ w = nI n ∧ 1 ≤ n ∧ n ≤ 100
def arg2 (c : Int32) (n : Nat) : Prop := ¬ c < 0 ∧ ¬ nI (1114112 - n) < c
theorem t_canBeEdit {x y w : Int32} {post : Int32 → Sg → Prop} (k1 : ∀ a i n, arg1 x y w a i n → post 1 g) (k0 : (∀ a i n, ¬ arg1 x y w a i n) → post 0 g) : w_C_canBeEdit z mi mc ms post g x y w := by
  unfold w_C_canBeEdit
  refine ⟨0, 0, by omega, by omega, ?_⟩
  unfold w_C_isName
  have b255 : (255 : Int32) = nI 255 := rfl
  have b1 : (1 : Int32) = nI 1 := rfl
  have b100 : (100 : Int32) = nI 100 := rfl
  have ng : ∀ {v : Int32}, v < 0 → ∀ j, j < 2 ^ 31 → v ≠ nI j := fun {v} hv j hj e => by rw [e] at hv; exact nI_pos hj hv
  refine ⟨fun hx => ⟨fun _ => k0 (fun a i n h => ng hx a (by have := h.2.1; omega) h.1), fun h => absurd rfl h⟩, fun hx => ⟨fun hx2 => ⟨fun _ => k0 (fun a i n h => ?_), fun h => absurd rfl h⟩, fun hx2 => ⟨fun h => absurd h (by decide), fun _ => ⟨fun hw1 => k0 (fun a i n h => ?_), fun hw1 => ⟨fun hw2 => k0 (fun a i n h => ?_), fun hw2 => ⟨fun hy => k0 (fun a i n h => ng hy i h.2.2.2.1 h.2.2.1), fun hy => ?_⟩⟩⟩⟩⟩⟩
  · rw [h.1, b255, nI_ltI (by omega) (by have := h.2.1; omega)] at hx2
    have := h.2.1; omega
  · obtain ⟨-, -, -, -, h5, h6, h7⟩ := h
    rw [h5, b1, nI_ltI (by omega) (by omega)] at hw1
    omega
  · obtain ⟨-, -, -, -, h5, h6, h7⟩ := h
    rw [h5, b100, nI_ltI (by omega) (by omega)] at hw2
    omega
  · obtain ⟨a, ha, rfl⟩ := nI_of hx
    obtain ⟨i, hi, rfl⟩ := nI_of hy
    have hw0 : ¬ w < 0 := fun h => hw1 (by
      rw [Int32.lt_iff_toInt_lt] at h ⊢
      have e1 : (1 : Int32).toInt = 1 := rfl
      have e0 : (0 : Int32).toInt = 0 := rfl
      rw [e0] at h; rw [e1]; omega)
    obtain ⟨n, hn, rfl⟩ := nI_of hw0
    rw [b255, nI_ltI (by omega) ha] at hx2
    rw [b1, nI_ltI hn (by omega)] at hw1
    rw [b100, nI_ltI (by omega) hn] at hw2
    exact k1 a i n ⟨rfl, by omega, rfl, hi, rfl, by omega, by omega⟩
theorem t_areCodes {c : Int32} {n : Nat} (hn1 : 1 ≤ n) (hn : n ≤ 100) {post : Int32 → Sg → Prop} (k1 : arg2 c n → post 1 g) (k0 : ¬ arg2 c n → post 0 g) : w_C_areCodes z mi mc ms post g c (nI n) := by
  unfold w_C_areCodes
  have e1 : nI n - 1 = nI (n - 1) := by
    have := nI_pred (n - 1)
    rw [Nat.sub_add_cancel hn1] at this
    exact this
  have e2 : (1114111 : Int32) - nI (n - 1) = nI (1114112 - n) := by
    have : (1114111 : Int32) = nI 1114111 := by decide
    rw [this, pk_sub (by omega)]
    congr 1
    omega
  rw [e1, e2]
  exact ⟨fun h => k0 (fun h' => h'.1 h), fun h => ⟨fun h' => k0 (fun q => q.2 h'), fun h' => k1 ⟨h, h'⟩⟩⟩
theorem arg1_uq {x y w : Int32} {a i n a' i' n' : Nat} (h : arg1 x y w a i n) (h' : arg1 x y w a' i' n') : a = a' ∧ i = i' ∧ n = n' := by
  obtain ⟨h1, h2, h3, h4, h5, h6, h7⟩ := h
  obtain ⟨q1, q2, q3, q4, q5, q6, q7⟩ := h'
  exact ⟨(nI_eq (by omega) (by omega)).mp (h1.symm.trans q1), (nI_eq h4 q4).mp (h3.symm.trans q3), (nI_eq (by omega) (by omega)).mp (h5.symm.trans q5)⟩
end CE
