section CP
variable {z mi mc ms : Nat} {G G2 : AG} {A : CA} {g : Sg} {V W : Nat → Nat}
theorem hI2 {a f : Nat} (h : isK g a [2, 3]) (hf : ((hp_fd 2).contains (f, false) && (hp_fd 3).contains (f, false)) = true) : hasI g a f := by
  obtain ⟨k, n, h1, h2⟩ := h
  rw [Bool.and_eq_true] at hf
  rcases List.mem_cons.mp h2 with rfl | h2
  · exact hasI_of h1 (by rw [hf.1]; decide)
  · rcases List.mem_cons.mp h2 with rfl | h2
    · exact hasI_of h1 (by rw [hf.2]; decide)
    · cases h2
theorem hR2 {a f : Nat} (h : isK g a [2, 3]) (hf : ((hp_fd 2).contains (f, true) && (hp_fd 3).contains (f, true)) = true) : hasR g a f := by
  obtain ⟨k, n, h1, h2⟩ := h
  rw [Bool.and_eq_true] at hf
  rcases List.mem_cons.mp h2 with rfl | h2
  · exact hasR_of h1 (by rw [hf.1]; decide)
  · rcases List.mem_cons.mp h2 with rfl | h2
    · exact hasR_of h1 (by rw [hf.2]; decide)
    · cases h2
theorem RCk.isE (hK : RCk G A (hT g)) {e : Nat} (he : e < G.ne) : isK g (A.ea e) [2, 3] := by
  have h := hK.ea e he
  by_cases hi : G.ins e = true
  · rw [if_pos hi] at h; exact ⟨_, _, h, by decide⟩
  · rw [if_neg hi] at h; exact ⟨_, _, h, by decide⟩
theorem nn {x : Option (Nat × Nat)} {y : Nat × Nat} (h : x = some y) : x ≠ none := by rw [h]; exact fun h => nomatch h
def ca2 (A : CA) (G : AG) (s a b : Nat) (B : Nat → Nat) (ad hd : Nat) : CA := CA.mk A.c A.ags A.arr A.rt A.li A.vw ad (cp2 A.ac G.ne) A.ga A.hl (ug A.hd s hd) (ug A.hc s (cp2 (A.hc s) (G.ct s))) (ug A.ea G.ne a) (ug A.bf G.ne b) (ug A.bv G.ne B)
def kpP (z : Nat) (G G2 : AG) (A A2 : CA) (a : Nat) (g g2 : Sg) : Prop := (∀ q, hT g q ≠ none → hT g2 q = hT g q) ∧ (∀ f q, hT g q ≠ none → f ≠ 1 → f ≠ 3 → f ≠ 10 → f ≠ 11 → fI g2 f q = fI g f q) ∧ (∀ q, hT g q ≠ none → fI g2 10 q = if q = a then nI G.ne else fI g 10 q) ∧ (∀ q, hT g q ≠ none → fI g2 11 q = if q = a then fI g 28 A.c else fI g 11 q) ∧ (∀ f q, hT g q ≠ none → f ≠ 2 → fR g2 f q = fR g f q) ∧ (∀ q, hT g q ≠ none → aI g2 q = aI g q) ∧ (∀ q, hT g q ≠ none → aL g2 q = aL g q) ∧ (∀ q k n, hT g q = some (k, n) → k ≠ 106 → aR g2 q = aR g q) ∧ (RCl z G2 A2 (hT g2) (fR g2 2) (fI g2 3) (aR g2)) ∧ (∀ s s', s < G.na → s' < G.na → 0 < A2.hc s → 0 < A2.hc s' → A2.hd s = A2.hd s' → s = s') ∧ (∀ s, s < G.na → 0 < A2.hc s → 0 < A2.ac → A2.hd s ≠ A2.ad)
theorem kpP.t {z : Nat} {G G2 : AG} {A A2 : CA} {a : Nat} {g g2 : Sg} (h : kpP z G G2 A A2 a g g2) : ∀ q, hT g q ≠ none → hT g2 q = hT g q := h.1
theorem kpP.i {z : Nat} {G G2 : AG} {A A2 : CA} {a : Nat} {g g2 : Sg} (h : kpP z G G2 A A2 a g g2) : ∀ f q, hT g q ≠ none → f ≠ 1 → f ≠ 3 → f ≠ 10 → f ≠ 11 → fI g2 f q = fI g f q := h.2.1
theorem kpP.i10 {z : Nat} {G G2 : AG} {A A2 : CA} {a : Nat} {g g2 : Sg} (h : kpP z G G2 A A2 a g g2) : ∀ q, hT g q ≠ none → fI g2 10 q = if q = a then nI G.ne else fI g 10 q := h.2.2.1
theorem kpP.i11 {z : Nat} {G G2 : AG} {A A2 : CA} {a : Nat} {g g2 : Sg} (h : kpP z G G2 A A2 a g g2) : ∀ q, hT g q ≠ none → fI g2 11 q = if q = a then fI g 28 A.c else fI g 11 q := h.2.2.2.1
theorem kpP.r {z : Nat} {G G2 : AG} {A A2 : CA} {a : Nat} {g g2 : Sg} (h : kpP z G G2 A A2 a g g2) : ∀ f q, hT g q ≠ none → f ≠ 2 → fR g2 f q = fR g f q := h.2.2.2.2.1
theorem kpP.ai {z : Nat} {G G2 : AG} {A A2 : CA} {a : Nat} {g g2 : Sg} (h : kpP z G G2 A A2 a g g2) : ∀ q, hT g q ≠ none → aI g2 q = aI g q := h.2.2.2.2.2.1
theorem kpP.al {z : Nat} {G G2 : AG} {A A2 : CA} {a : Nat} {g g2 : Sg} (h : kpP z G G2 A A2 a g g2) : ∀ q, hT g q ≠ none → aL g2 q = aL g q := h.2.2.2.2.2.2.1
theorem kpP.ar {z : Nat} {G G2 : AG} {A A2 : CA} {a : Nat} {g g2 : Sg} (h : kpP z G G2 A A2 a g g2) : ∀ q k n, hT g q = some (k, n) → k ≠ 106 → aR g2 q = aR g q := h.2.2.2.2.2.2.2.1
theorem kpP.l {z : Nat} {G G2 : AG} {A A2 : CA} {a : Nat} {g g2 : Sg} (h : kpP z G G2 A A2 a g g2) : RCl z G2 A2 (hT g2) (fR g2 2) (fI g2 3) (aR g2) := h.2.2.2.2.2.2.2.2.1
theorem kpP.hd_inj {z : Nat} {G G2 : AG} {A A2 : CA} {a : Nat} {g g2 : Sg} (h : kpP z G G2 A A2 a g g2) : ∀ s s', s < G.na → s' < G.na → 0 < A2.hc s → 0 < A2.hc s' → A2.hd s = A2.hd s' → s = s' := h.2.2.2.2.2.2.2.2.2.1
theorem kpP.hd_ad {z : Nat} {G G2 : AG} {A A2 : CA} {a : Nat} {g g2 : Sg} (h : kpP z G G2 A A2 a g g2) : ∀ s, s < G.na → 0 < A2.hc s → 0 < A2.ac → A2.hd s ≠ A2.ad := h.2.2.2.2.2.2.2.2.2.2
theorem kpP.mk {z : Nat} {G G2 : AG} {A A2 : CA} {a : Nat} {g g2 : Sg} (h0 : ∀ q, hT g q ≠ none → hT g2 q = hT g q) (h1 : ∀ f q, hT g q ≠ none → f ≠ 1 → f ≠ 3 → f ≠ 10 → f ≠ 11 → fI g2 f q = fI g f q) (h2 : ∀ q, hT g q ≠ none → fI g2 10 q = if q = a then nI G.ne else fI g 10 q) (h3 : ∀ q, hT g q ≠ none → fI g2 11 q = if q = a then fI g 28 A.c else fI g 11 q) (h4 : ∀ f q, hT g q ≠ none → f ≠ 2 → fR g2 f q = fR g f q) (h5 : ∀ q, hT g q ≠ none → aI g2 q = aI g q) (h6 : ∀ q, hT g q ≠ none → aL g2 q = aL g q) (h7 : ∀ q k n, hT g q = some (k, n) → k ≠ 106 → aR g2 q = aR g q) (h8 : RCl z G2 A2 (hT g2) (fR g2 2) (fI g2 3) (aR g2)) (h9 : ∀ s s', s < G.na → s' < G.na → 0 < A2.hc s → 0 < A2.hc s' → A2.hd s = A2.hd s' → s = s') (h10 : ∀ s, s < G.na → 0 < A2.hc s → 0 < A2.ac → A2.hd s ≠ A2.ad) : kpP z G G2 A A2 a g g2 := ⟨h0, h1, h2, h3, h4, h5, h6, h7, h8, h9, h10⟩
theorem t_keep (hw : WF G) (hK : RCk G A (hT g)) (hF : RCf G A g) (hl : RCl z G A (hT g) (fR g 2) (fI g 3) (aR g)) {s a b : Nat} {B : Nat → Nat} (hs : s < G.na) (hne : G.ne < 8192) (hE : evS G G2 s W) (ha : isK g a [2, 3]) (ha7 : fR g 7 a = some (A.ga s)) (hmc : 2 ≤ mc) (hms : co (A.hc s) (G.ct s) + co A.ac G.ne ≤ ms) {post : Sg → Prop}
    (k : ∀ ad hd g2, kpP z G G2 A (ca2 A G s a b B ad hd) a g g2 → post g2) : w_C_keep z mi mc ms post g A.c (some a) := by
  have hc := hK.c
  have harr := hK.arr
  have hga := hK.ga s hs
  have hhl := hK.hl s hs
  have hct : G.ct s < 8192 := by have := hw.ct_le s hs; omega
  have hhla := hK.hl_arr s hs
  unfold w_C_keep
  (refine ⟨?_, ?_⟩; (focus (first | exact hasI_of (by assumption) (by decide) | exact hasR_of (by assumption) (by decide))); rintro _ rfl; try rw [hF.arr])
  refine ⟨_, rfl, ?_⟩
  refine ⟨⟨_, _, by assumption, by decide⟩, 0, 0, by omega, by omega, ?_⟩
  refine t_size harr hl.n ?_
  refine ⟨_, rfl, ?_⟩
  refine ⟨hI2 ha (by decide), ?_⟩
  rintro _ rfl
  refine ⟨hasI_of hc (by decide), ?_⟩
  rintro _ rfl
  rw [fI_wI_ne _ _ _ (by decide)]
  refine ⟨hI2 (g := wI g 10 a (nI G.ne)) ha (by decide), ?_⟩
  rintro _ rfl
  have E0 : ∀ f, f ≠ 10 → f ≠ 11 → fI (wI (wI g 10 a (nI G.ne)) 11 a (fI g 28 A.c)) f = fI g f := fun f h1 h2 => by rw [fI_wI_ne _ _ _ h2, fI_wI_ne _ _ _ h1]
  obtain ⟨g1, hg1⟩ : ∃ g1, g1 = wI (wI g 10 a (nI G.ne)) 11 a (fI g 28 A.c) := ⟨_, rfl⟩
  have T1 : hT g1 = hT g := by rw [hg1]; rfl
  have R1 : fR g1 = fR g := by rw [hg1]; rfl
  have AR1 : aR g1 = aR g := by rw [hg1]; rfl
  have AI1 : aI g1 = aI g := by rw [hg1]; rfl
  have AL1 : aL g1 = aL g := by rw [hg1]; rfl
  have I1 : ∀ f, f ≠ 10 → f ≠ 11 → fI g1 f = fI g f := by rw [hg1]; exact E0
  have I10 : fI g1 10 = fun q => if q = a then nI G.ne else fI g 10 q := by rw [hg1, fI_wI_ne _ _ _ (by decide), fI_wI]
  have I11 : fI g1 11 = fun q => if q = a then fI g 28 A.c else fI g 11 q := by rw [hg1, fI_wI, fI_wI_ne _ _ _ (by decide)]
  have ha1 : isK g1 a [2, 3] := by unfold isK; rw [T1]; exact ha
  rw [← hg1]
  refine ⟨hR2 ha1 (by decide), ?_⟩
  rintro _ rfl
  rw [R1, ha7]
  refine ⟨_, rfl, ?_⟩
  refine ⟨hasR_of (by rw [T1]; exact hga) (by decide), ?_⟩
  rintro _ rfl
  rw [hF.hl s hs]
  refine ⟨_, rfl, ?_⟩
  refine ⟨⟨_, _, by rw [T1]; exact hhl, by decide⟩, 1, co (A.hc s) (G.ct s), by omega, by omega, ?_⟩
  have isl : ∀ e, e < G.ne → isK g1 (A.ea e) [2, 3] := fun e he => by unfold isK; rw [T1]; exact hK.isE he
  refine t_alAdd (a := A.hl s) (d := A.hd s) (cap := A.hc s) (n := G.ct s) (x := a) (f := fun n => A.ea (G.ev s n)) (f2 := fun n => (ug A.ea G.ne a) (G2.ev s n)) (by rw [T1]; exact hhl) (by rw [I1 3 (by decide) (by decide)]; exact hl.hn s hs) (by rw [R1]; exact hl.hd s hs) (by rw [T1, AR1]; exact hl.hrow s hs) hct ha1 (fun i hi => isl _ (hw.ev_lt s i hs hi)) (fun i hi => ?_) ?_ (by omega) (by omega) (fun d2 g3 P => ?_)
  · show ug A.ea G.ne a (G2.ev s i) = A.ea (G.ev s i)
    have hev : G2.ev s i = G.ev s i := by
      rw [hE.ev]
      exact if_neg (fun h => by omega)
    have := hw.ev_lt s i hs hi
    rw [hev, ug_ne (by omega)]
  · show ug A.ea G.ne a (G2.ev s (G.ct s)) = a
    rw [hE.ev]
    simp [ug_at]
  have live1 : ∀ q, hT g q ≠ none → hT g1 q ≠ none := fun q h => by rw [T1]; exact h
  have T3 : ∀ q, hT g q ≠ none → hT g3 q = hT g q := fun q h => by rw [P.t q (live1 q h), T1]
  have live3 : ∀ q, hT g q ≠ none → hT g3 q ≠ none := fun q h => by rw [T3 q h]; exact h
  refine ⟨hasR_of (by rw [T3 _ (nn hc)]; exact hc) (by decide), ?_⟩
  rintro _ rfl
  rw [P.r 22 A.c (live1 _ (nn hc)) (fun h => absurd h (by decide)), R1, hF.arr]
  refine ⟨_, rfl, ?_⟩
  have harr3 : hT g3 A.arr = some (0, 3) := by rw [T3 _ (nn harr)]; exact harr
  refine ⟨⟨_, _, harr3, by decide⟩, 1, co A.ac G.ne, by omega, by omega, ?_⟩
  have isl3 : ∀ q, isK g q [2, 3] → isK g3 q [2, 3] := fun q ⟨k1, k2, k3, k4⟩ => ⟨k1, k2, by rw [T3 q (nn k3)]; exact k3, k4⟩
  have har3 : ∀ q, hT g q ≠ none → (0 < A.hc s → q ≠ A.hd s) → aR g3 q = aR g q := fun q h h' => by rw [P.ar q (live1 q h) h', AR1]
  have hrow3 : rowD z (hT g3) (aR g3) A.ad A.ac G.ne A.ea := by
    obtain ⟨r1, r2, r4, r3⟩ := hl.row
    refine ⟨r1, r2, r4, ?_⟩
    rcases r3 with h | ⟨q1, q2, q3⟩
    · exact Or.inl h
    · refine Or.inr ⟨q1, by rw [T3 _ (nn q2)]; exact q2, fun i hi => ?_⟩
      rw [har3 _ (nn q2) (fun h e => hK.hd_ad s hs h (by omega) e.symm)]
      exact q3 i hi
  refine t_alAdd (a := A.arr) (d := A.ad) (cap := A.ac) (n := G.ne) (x := a) (f := A.ea) (f2 := ug A.ea G.ne a) harr3 (by rw [P.i 3 _ (live1 _ (nn harr)) (by decide) (fun _ => Ne.symm hhla), I1 3 (by decide) (by decide)]; exact hl.n) (by rw [P.r 2 _ (live1 _ (nn harr)) (fun _ => Ne.symm hhla), R1]; exact hl.d) hrow3 hne (isl3 a ha) (fun i hi => isl3 _ (hK.isE hi)) (fun i hi => ug_ne (by omega)) (ug_at _ _ _) (by omega) (by omega) (fun ad2 g4 Q => ?_)
  have T4 : ∀ q, hT g q ≠ none → hT g4 q = hT g q := fun q h => by rw [Q.t q (live3 q h), T3 q h]
  have hsn : G2.na = G.na := hE.na
  have datal : ∀ t, t < G.na → 0 < A.hc t → hT g (A.hd t) = some (106, A.hc t) := fun t ht h0 => by
    obtain ⟨r1, r2, r4, r3⟩ := hl.hrow t ht
    rcases r3 with h | ⟨q1, q2, q3⟩
    · omega
    · exact q2
  have adl : 0 < A.ac → hT g A.ad = some (106, A.ac) := fun h0 => by
    obtain ⟨r1, r2, r4, r3⟩ := hl.row
    rcases r3 with h | ⟨q1, q2, q3⟩
    · omega
    · exact q2
  have d2l : hT g3 d2 ≠ none := by
    obtain ⟨r1, r2, r4, r3⟩ := P.row
    rcases r3 with h | ⟨q1, q2, q3⟩
    · omega
    · exact nn q2
  have d2ad : 0 < A.ac → d2 ≠ A.ad := fun h0 e => by
    rcases P.dn with ⟨h1, h2⟩ | h
    · exact hK.hd_ad s hs h2 h0 (by rw [← h1]; exact e)
    · rw [T1, e, adl h0] at h; cases h
  refine k ad2 d2 g4 (kpP.mk T4 (fun f q h h1 h2 h3 h4 => ?_) (fun q h => ?_) (fun q h => ?_) (fun f q h h2 => ?_) (fun q h => ?_) (fun q h => ?_) (fun q kk nk h h106 => ?_) ?_ ?_ ?_)
  · rw [Q.i f q (live3 q h) h1 (fun e => absurd e h2), P.i f q (live1 q h) h1 (fun e => absurd e h2), I1 f h3 h4]
  · rw [Q.i 10 q (live3 q h) (by decide) (fun e => absurd e (by decide)), P.i 10 q (live1 q h) (by decide) (fun e => absurd e (by decide)), I10]
  · rw [Q.i 11 q (live3 q h) (by decide) (fun e => absurd e (by decide)), P.i 11 q (live1 q h) (by decide) (fun e => absurd e (by decide)), I11]
  · rw [Q.r f q (live3 q h) (fun e => absurd e h2), P.r f q (live1 q h) (fun e => absurd e h2), R1]
  · rw [Q.ai q (live3 q h), P.ai q (live1 q h), AI1]
  · rw [Q.al q (live3 q h), P.al q (live1 q h), AL1]
  · rw [Q.ar q (live3 q (nn h)) (fun h0 e => ?_), P.ar q (live1 q (nn h)) (fun h0 e => ?_), AR1]
    · rw [e, datal s hs h0] at h
      exact h106 (by cases h; rfl)
    · rw [e, adl h0] at h
      exact h106 (by cases h; rfl)
  · refine RCl.mk (by rw [hE.ne]; exact Q.n) Q.d (by rw [hE.ne]; exact Q.row) (fun t ht => ?_) (fun t ht => ?_) (fun t ht => ?_)
    · rw [hsn] at ht
      show fI g4 3 (A.hl t) = _
      rw [Q.i 3 _ (live3 _ (nn (hK.hl t ht))) (by decide) (fun _ => hK.hl_arr t ht), hE.ct]
      by_cases hts : t = s
      · rw [hts, ug_at]; exact P.n
      · rw [ug_ne hts, P.i 3 _ (live1 _ (nn (hK.hl t ht))) (by decide) (fun _ e => hts (hK.hl_inj t s ht hs e)), I1 3 (by decide) (by decide)]
        exact hl.hn t ht
    · rw [hsn] at ht
      show fR g4 2 (A.hl t) = some (ug A.hd s d2 t)
      rw [Q.r 2 _ (live3 _ (nn (hK.hl t ht))) (fun _ => hK.hl_arr t ht)]
      by_cases hts : t = s
      · rw [hts, ug_at]; exact P.d
      · rw [ug_ne hts, P.r 2 _ (live1 _ (nn (hK.hl t ht))) (fun _ e => hts (hK.hl_inj t s ht hs e)), R1]
        exact hl.hd t ht
    · rw [hsn] at ht
      show rowD z (hT g4) (aR g4) (ug A.hd s d2 t) (ug A.hc s (cp2 (A.hc s) (G.ct s)) t) (G2.ct t) (fun n => ug A.ea G.ne a (G2.ev t n))
      rw [hE.ct]
      by_cases hts : t = s
      · subst hts
        rw [ug_at, ug_at, ug_at]
        obtain ⟨r1, r2, r4, r3⟩ := P.row
        refine ⟨r1, r2, r4, ?_⟩
        rcases r3 with h | ⟨q1, q2, q3⟩
        · exact Or.inl h
        · refine Or.inr ⟨q1, by rw [Q.t _ d2l]; exact q2, fun i hi => ?_⟩
          rw [Q.ar _ d2l d2ad]
          exact q3 i hi
      · rw [ug_ne hts, ug_ne hts, ug_ne hts]
        obtain ⟨r1, r2, r4, r3⟩ := hl.hrow t ht
        refine ⟨r1, r2, r4, ?_⟩
        rcases r3 with h | ⟨q1, q2, q3⟩
        · exact Or.inl h
        · refine Or.inr ⟨q1, by rw [T4 _ (nn q2)]; exact q2, fun i hi => ?_⟩
          rw [Q.ar _ (live3 _ (nn q2)) (fun h0 => hK.hd_ad t ht (by omega) h0), har3 _ (nn q2) (fun h0 e => hts (hK.hd_inj t s ht hs (by omega) h0 e)), q3 i hi]
          show _ = some (ug A.ea G.ne a (G2.ev t i))
          rw [hE.ev]
          have : ¬ (t = s ∧ i = G.ct s) := fun h => hts h.1
          simp only [this, if_false]
          have := hw.ev_lt t i ht hi
          rw [ug_ne (by omega)]
  · intro t t' ht ht' h1 h2 e
    have h1' : 0 < ug A.hc s (cp2 (A.hc s) (G.ct s)) t := h1
    have h2' : 0 < ug A.hc s (cp2 (A.hc s) (G.ct s)) t' := h2
    have e' : ug A.hd s d2 t = ug A.hd s d2 t' := e
    have one : ∀ q, q < G.na → q ≠ s → 0 < A.hc q → d2 ≠ A.hd q := fun q hq hqs h0 e => by
      rcases P.dn with ⟨h1, h2⟩ | h
      · exact hqs (hK.hd_inj q s hq hs h0 h2 (by rw [← e, h1]))
      · rw [T1, e, datal q hq h0] at h; cases h
    by_cases hts : t = s
    · by_cases hts' : t' = s
      · rw [hts, hts']
      · rw [hts, ug_at, ug_ne hts'] at e'
        rw [ug_ne hts'] at h2'
        exact absurd e' (one t' ht' hts' h2')
    · by_cases hts' : t' = s
      · rw [hts', ug_at, ug_ne hts] at e'
        rw [ug_ne hts] at h1'
        exact absurd e'.symm (one t ht hts h1')
      · rw [ug_ne hts, ug_ne hts'] at e'
        rw [ug_ne hts] at h1'
        rw [ug_ne hts'] at h2'
        exact hK.hd_inj t t' ht ht' h1' h2' e'
  · intro t ht h1 h2 e
    have h1' : 0 < ug A.hc s (cp2 (A.hc s) (G.ct s)) t := h1
    have e' : ug A.hd s d2 t = ad2 := e
    have e3 : ∀ q, hT g3 q ≠ none → (0 < A.ac → q ≠ A.ad) → q ≠ ad2 := fun q hq hq' e => by
      rcases Q.dn with ⟨h1, h2⟩ | h
      · exact hq' h2 (by rw [e, h1])
      · rw [← e] at h; exact hq h
    by_cases hts : t = s
    · rw [hts, ug_at] at e'
      exact e3 d2 d2l d2ad e'
    · rw [ug_ne hts] at e' h1'
      exact e3 (A.hd t) (live3 _ (nn (datal t ht h1'))) (fun h0 => hK.hd_ad t ht h1' h0) e'
end CP
