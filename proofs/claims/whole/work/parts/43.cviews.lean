section CV
variable {z mi mc ms : Nat} {G : AG} {A : CA} {g : Sg} {L : List Nat} {V : Nat → Nat}
def fC (v : Nat) (g g2 : Sg) : Prop := (∀ a, hT g a ≠ none → hT g2 a = hT g a) ∧ (∀ f a, 29 ≤ f → hT g a ≠ none → fI g2 f a = fI g f a) ∧ (∀ f a, 29 ≤ f → hT g a ≠ none → fR g2 f a = fR g f a) ∧ (∀ a, hT g a ≠ none → a ≠ v → aI g2 a = aI g a) ∧ (∀ a n, hT g a = some (107, n) → aR g2 a = aR g a) ∧ (∀ a, hT g a ≠ none → aL g2 a = aL g a)
theorem fC.t {v : Nat} {g g2 : Sg} (h : fC v g g2) : ∀ a, hT g a ≠ none → hT g2 a = hT g a := h.1
theorem fC.i {v : Nat} {g g2 : Sg} (h : fC v g g2) : ∀ f a, 29 ≤ f → hT g a ≠ none → fI g2 f a = fI g f a := h.2.1
theorem fC.r {v : Nat} {g g2 : Sg} (h : fC v g g2) : ∀ f a, 29 ≤ f → hT g a ≠ none → fR g2 f a = fR g f a := h.2.2.1
theorem fC.ai {v : Nat} {g g2 : Sg} (h : fC v g g2) : ∀ a, hT g a ≠ none → a ≠ v → aI g2 a = aI g a := h.2.2.2.1
theorem fC.ar {v : Nat} {g g2 : Sg} (h : fC v g g2) : ∀ a n, hT g a = some (107, n) → aR g2 a = aR g a := h.2.2.2.2.1
theorem fC.al {v : Nat} {g g2 : Sg} (h : fC v g g2) : ∀ a, hT g a ≠ none → aL g2 a = aL g a := h.2.2.2.2.2
theorem fC.mk {v : Nat} {g g2 : Sg} (h0 : ∀ a, hT g a ≠ none → hT g2 a = hT g a) (h1 : ∀ f a, 29 ≤ f → hT g a ≠ none → fI g2 f a = fI g f a) (h2 : ∀ f a, 29 ≤ f → hT g a ≠ none → fR g2 f a = fR g f a) (h3 : ∀ a, hT g a ≠ none → a ≠ v → aI g2 a = aI g a) (h4 : ∀ a n, hT g a = some (107, n) → aR g2 a = aR g a) (h5 : ∀ a, hT g a ≠ none → aL g2 a = aL g a) : fC v g g2 := ⟨h0, h1, h2, h3, h4, h5⟩
theorem fC.refl {v : Nat} (g : Sg) : fC v g g := fC.mk (fun _ _ => rfl) (fun _ _ _ _ => rfl) (fun _ _ _ _ => rfl) (fun _ _ _ => rfl) (fun _ _ _ => rfl) (fun _ _ => rfl)
theorem fC.trans {v : Nat} {g1 g2 g3 : Sg} (h : fC v g1 g2) (h' : fC v g2 g3) : fC v g1 g3 := by
  have q : ∀ a, hT g1 a ≠ none → hT g2 a ≠ none := fun a ha => by rw [h.t a ha]; exact ha
  exact fC.mk (fun a ha => (h'.t a (q a ha)).trans (h.t a ha)) (fun f a hf ha => (h'.i f a hf (q a ha)).trans (h.i f a hf ha)) (fun f a hf ha => (h'.r f a hf (q a ha)).trans (h.r f a hf ha))
    (fun a ha hv => (h'.ai a (q a ha) hv).trans (h.ai a ha hv)) (fun a n ha => (h'.ar a n ((h.t a (by rw [ha]; exact fun x => nomatch x)).trans ha)).trans (h.ar a n ha)) (fun a ha => (h'.al a (q a ha)).trans (h.al a ha))
theorem sI_cI (g : Sg) (a i : Nat) (v : Int32) : sI g a i v = cI g a (fun j => if j = i then v else aI g a j) := by
  unfold sI cI
  refine congrArg (fun q => (g.1, g.2.1, g.2.2.1, q, g.2.2.2.2)) ?_
  funext a' i'
  by_cases h : a' = a
  · subst h; simp [aI]
  · simp [h]
theorem cI_cI (g : Sg) (a : Nat) (h h' : Nat → Int32) : cI (cI g a h) a h' = cI g a h' := by
  unfold cI
  refine congrArg (fun q => (g.1, g.2.1, g.2.2.1, q, g.2.2.2.2)) ?_
  funext a' i'
  by_cases e : a' = a
  · simp [e]
  · simp [e]
theorem cI_self (g : Sg) (a : Nat) : cI g a (aI g a) = g := by
  unfold cI
  have : (fun a' i' => if a' = a then aI g a i' else g.2.2.2.1 a' i') = g.2.2.2.1 := by
    funext a' i'
    by_cases e : a' = a
    · simp [e, aI]
    · simp [e]
  rw [this]
theorem aI_cI (g : Sg) (a : Nat) (h : Nat → Int32) : aI (cI g a h) a = h := by
  unfold aI cI; funext i; simp
theorem aI_cI_ne (g : Sg) {a b : Nat} (h : Nat → Int32) (e : b ≠ a) : aI (cI g a h) b = aI g b := by
  unfold aI cI; funext i; simp [e]
theorem fC.vw (g : Sg) (v : Nat) (h : Nat → Int32) : fC v g (cI g v h) :=
  fC.mk (fun _ _ => rfl) (fun _ _ _ _ => rfl) (fun _ _ _ _ => rfl) (fun a _ hv => aI_cI_ne g h hv) (fun _ _ _ => rfl) (fun _ _ => rfl)
theorem RC.vw (hR : RC z G A g) (h : Nat → Int32) : RC z G A (cI g A.vw h) := by
  refine RC.mk hR.k hR.f hR.l ?_ hR.s hR.o hR.d hR.t
  refine RCe.mk hR.e.ag hR.e.nu hR.e.bf hR.e.ar hR.e.cd (fun e s he hs => ?_) hR.e.pa hR.e.own
  rw [aI_cI_ne g h (hR.k.bf_vw e he)]
  exact hR.e.bv e s he hs
theorem RCi.vw (hR : RCi G A L g) (h : Nat → Int32) : RCi G A L (cI g A.vw h) := hR
theorem t_findEvent (hw : WF G) (hR : RC z G A g) {post : Option Nat → Sg → Prop} {x y : Int32}
    (k1 : ∀ s n, s < G.na → n < G.ct s → nI (G.nm s) = x → y = nI n → post (some (A.ea (G.ev s n))) g) (k2 : (∀ s n, s < G.na → n < G.ct s → nI (G.nm s) = x → y ≠ nI n) → post none g) : w_C_findEvent z mi mc ms post g A.c x y := by
  have h1 := hR.k.c
  unfold w_C_findEvent
  refine ⟨⟨_, _, by assumption, by decide⟩, 0, 0, by omega, by omega, ?_⟩
  refine t_findAgent hw hR (fun s hs hx => ⟨(fun h => nomatch h), ?_⟩) (fun hno => ⟨fun _ => k2 (fun s n hs _ hx => absurd hx (hno s hs)), (fun _ h => nomatch h)⟩)
  rintro _ ⟨⟩
  have h2 := hR.k.ga s hs
  have h3 := hR.k.hl s hs
  have hc := ct2M hw hs
  have uniq : ∀ s', s' < G.na → nI (G.nm s') = x → s' = s := fun s' hs' hx' => by
    have q1 := hw.nm_le s hs
    have q2 := hw.nm_le s' hs'
    exact hw.nm_inj _ _ hs' hs ((eI (by omega) (by omega)).mp (hx'.trans hx.symm))
  refine ⟨fun hy => k2 (fun s' n hs' hn hx' hy' => ?_), fun hy => ?_⟩
  · have := ct2M hw hs'
    rw [hy'] at hy
    exact pI0 (by omega) hy
  · (refine ⟨?_, ?_⟩; (focus (first | exact hasI_of (by assumption) (by decide) | exact hasR_of (by assumption) (by decide))); rintro _ rfl; try rw [hR.f.hl s hs])
    refine ⟨_, rfl, ?_⟩
    refine ⟨⟨_, _, by assumption, by decide⟩, 0, 0, by omega, by omega, ?_⟩
    refine t_size h3 (hR.l.hn s hs) ?_
    obtain ⟨j, hj, rfl⟩ := nI_of hy
    have hb : G.ct s < 2 ^ 31 := b31 hc
    rw [nI_ltI hj hb]
    refine ⟨fun hjn => ?_, fun hjn => k2 (fun s' n hs' hn hx' hy' => ?_)⟩
    · (refine ⟨?_, ?_⟩; (focus (first | exact hasI_of (by assumption) (by decide) | exact hasR_of (by assumption) (by decide))); rintro _ rfl; try rw [hR.f.hl s hs])
      refine ⟨_, rfl, ?_⟩
      refine ⟨⟨_, _, by assumption, by decide⟩, 0, 0, by omega, by omega, ?_⟩
      refine t_get h3 (hR.l.hn s hs) (hR.l.hd s hs) (hR.l.hrow s hs) hjn ?_
      exact ⟨_, rfl, hR.isE (hw.ev_lt s _ hs hjn), k1 s j hs hjn hx rfl⟩
    · obtain rfl := uniq s' hs' hx'
      have := (nI_eq hj (by omega)).mp hy'
      omega
theorem t_isListed (hR : RC z G A g) (hL : RCi G A L g) {e : Nat} (he : e < G.ne) {post : Int32 → Sg → Prop} (k1 : e ∈ L → post 1 g) (k0 : e ∉ L → post 0 g) : w_C_isListed z mi mc ms post g A.c (some (A.ea e)) := by
  have h1 := hR.k.c
  have h2 := hR.k.li
  have hle := hL.le
  have key : ∀ d i, i + d = L.length → (∀ j f, j < i → L[j]? = some f → f ≠ e) → ∀ kc ks, w_C_isListed_2 z mi mc ms post (d + 1) kc ks g A.c (some (A.ea e)) (nI i) := by
    intro d
    induction d with
    | zero =>
      intro i hi hno kc ks
      unfold w_C_isListed_2
      (refine ⟨?_, ?_⟩; (focus (first | exact hasI_of (by assumption) (by decide) | exact hasR_of (by assumption) (by decide))); rintro _ rfl; try rw [hL.n])
      refine ⟨fun _ => k0 (fun hm => ?_), fun h => absurd ((lI (by omega) (by omega)).mpr (by omega)) h⟩
      obtain ⟨j, hj⟩ := List.getElem?_of_mem hm
      have := (List.getElem?_eq_some_iff.mp hj).1
      exact hno j e (by omega) hj rfl
    | succ d ih =>
      intro i hi hno kc ks
      have hi' : i < L.length := by omega
      have hg : L[i]? = some L[i] := List.getElem?_eq_getElem hi'
      unfold w_C_isListed_2
      (refine ⟨?_, ?_⟩; (focus (first | exact hasI_of (by assumption) (by decide) | exact hasR_of (by assumption) (by decide))); rintro _ rfl; try rw [hL.n])
      refine ⟨fun h => absurd ((lI (by omega) (by omega)).mp h) (by omega), fun _ => ?_⟩
      (refine ⟨?_, ?_⟩; (focus (first | exact hasI_of (by assumption) (by decide) | exact hasR_of (by assumption) (by decide))); rintro _ rfl; try rw [hR.f.li])
      refine ⟨_, rfl, ?_⟩
      (refine ⟨i, ⟨_, h2, rfl, by omega, by decide⟩, ?_⟩; rintro _ rfl; try rw [hL.at i _ hg])
      refine ⟨fun hx => ?_, fun hx => ?_⟩
      · rw [nI_1]
        refine ih (i + 1) (by omega) (fun j f hj hf hfe => ?_) kc ks
        by_cases hji : j = i
        · subst hji
          rw [hg] at hf
          rw [Option.some.inj hf, hfe] at hx
          exact hx rfl
        · exact hno j f (by omega) hf hfe
      · have hm : L[i] ∈ L := List.getElem_mem hi'
        have := hR.k.ea_inj _ _ (hL.lt _ hm) he (Option.some.inj hx)
        rw [this] at hm
        exact k1 hm
  unfold w_C_isListed
  exact ⟨_, key L.length 0 (by omega) (fun j f hj => absurd hj (by omega)) 0 0⟩
theorem t_hasFollower (hw : WF G) (hR : RC z G A g) {e : Nat} (he : e < G.ne) {post : Int32 → Sg → Prop} (k1 : (∃ s, s < G.na ∧ 0 < G.ct s ∧ kn G (G.pa (G.ev s (G.ct s - 1))) e) → post 1 g) (k0 : (∀ s, s < G.na → 0 < G.ct s → ¬ kn G (G.pa (G.ev s (G.ct s - 1))) e) → post 0 g) : w_C_hasFollower z mi mc ms post g A.c (some (A.ea e)) := by
  have h1 := hR.k.c
  have h2 := hR.k.ags
  have hna := hw.na_le
  have key : ∀ d i, i + d = G.na → (∀ s, s < i → 0 < G.ct s → ¬ kn G (G.pa (G.ev s (G.ct s - 1))) e) → ∀ kc ks, kc ≤ mc → ks ≤ ms → w_C_hasFollower_2 z mi mc ms post (d + 1) kc ks g A.c (some (A.ea e)) (nI i) := by
    intro d
    induction d with
    | zero =>
      intro i hi hno kc ks hk hk'
      unfold w_C_hasFollower_2
      (refine ⟨?_, ?_⟩; (focus (first | exact hasI_of (by assumption) (by decide) | exact hasR_of (by assumption) (by decide))); rintro _ rfl; try rw [hR.f.na])
      refine ⟨fun _ => k0 (fun s hs => hno s (by omega)), fun h => absurd ((lI (by omega) (by omega)).mpr (by omega)) h⟩
    | succ d ih =>
      intro i hi hno kc ks hk hk'
      have hi' : i < G.na := by omega
      have h3 := hR.k.ga i hi'
      unfold w_C_hasFollower_2
      (refine ⟨?_, ?_⟩; (focus (first | exact hasI_of (by assumption) (by decide) | exact hasR_of (by assumption) (by decide))); rintro _ rfl; try rw [hR.f.na])
      refine ⟨fun h => absurd ((lI (by omega) (by omega)).mp h) (by omega), fun _ => ?_⟩
      (refine ⟨?_, ?_⟩; (focus (first | exact hasI_of (by assumption) (by decide) | exact hasR_of (by assumption) (by decide))); rintro _ rfl; try rw [hR.f.ags])
      refine ⟨_, rfl, ?_⟩
      (refine ⟨i, ⟨_, h2, rfl, by omega, by decide⟩, ?_⟩; rintro _ rfl; try rw [hR.f.ag i hi'])
      refine ⟨_, rfl, ?_⟩
      refine ⟨⟨_, _, by assumption, by decide⟩, 0, 0, by omega, by omega, ?_⟩
      refine t_latest hw hR hi' (fun h0 => ⟨fun _ => ?_, (fun _ h => nomatch h)⟩) (fun h0 => ⟨(fun h => nomatch h), ?_⟩)
      · rw [nI_1]
        exact ih (i + 1) (by omega) (fun s hs hc => by
          by_cases hsi : s = i
          · subst hsi; omega
          · exact hno s (by omega) hc) kc ks hk hk'
      · rintro _ ⟨⟩
        have hlt := hw.ev_lt i (G.ct i - 1) hi' (by omega)
        refine ⟨hR.isE hlt, 0, 0, by omega, by omega, ?_⟩
        refine t_isAfter hw hR hlt he (fun hy => ⟨fun h => absurd h (by decide), fun _ => k1 ⟨i, hi', h0, hy⟩⟩) (fun hy => ⟨fun _ => ?_, fun h => absurd rfl h⟩)
        rw [nI_1]
        exact ih (i + 1) (by omega) (fun s hs hc => by
          by_cases hsi : s = i
          · subst hsi; exact hy
          · exact hno s (by omega) hc) kc ks hk hk'
  unfold w_C_hasFollower
  exact ⟨_, key G.na 0 (by omega) (fun s hs => absurd hs (by omega)) 0 0 (by omega) (by omega)⟩
theorem t_tangled (hw : WF G) (hR : RC z G A g) (hL : RCi G A L g) {post : Int32 → Sg → Prop} (k1 : (∃ e ∈ L, ∃ f ∈ L, kn G (G.pa e) f) → post 1 g) (k0 : (∀ e ∈ L, ∀ f ∈ L, ¬ kn G (G.pa e) f) → post 0 g) : w_C_isListTangled z mi mc ms post g A.c := by
  have h1 := hR.k.c
  have h2 := hR.k.li
  have hle := hL.le
  have inner : ∀ (K : Nat → Nat → Sg → Nat → Int32 → Prop) (i : Nat) (hi : i < L.length), (∀ kc ks, kc ≤ mc → ks ≤ ms → (∀ f ∈ L, ¬ kn G (G.pa L[i]) f) → K kc ks g A.c (nI (i + 1))) → ∀ d j, j + d = L.length → (∀ q f, q < j → L[q]? = some f → ¬ kn G (G.pa L[i]) f) → ∀ kc ks, kc ≤ mc → ks ≤ ms → w_C_isListTangled_12 z mi mc ms post K (d + 1) kc ks g A.c (nI i) (nI j) := by
    intro K i hi hK d
    have hgi : L[i]? = some L[i] := List.getElem?_eq_getElem hi
    have hei := hL.lt _ (List.getElem_mem hi)
    induction d with
    | zero =>
      intro j hj hno kc ks hk hk'
      unfold w_C_isListTangled_12
      (refine ⟨?_, ?_⟩; (focus (first | exact hasI_of (by assumption) (by decide) | exact hasR_of (by assumption) (by decide))); rintro _ rfl; try rw [hL.n])
      refine ⟨fun _ => ?_, fun h => absurd ((lI (by omega) (by omega)).mpr (by omega)) h⟩
      rw [nI_1]
      refine hK kc ks hk hk' (fun f hf => ?_)
      obtain ⟨q, hq⟩ := List.getElem?_of_mem hf
      have := (List.getElem?_eq_some_iff.mp hq).1
      exact hno q f (by omega) hq
    | succ d ih =>
      intro j hj hno kc ks hk hk'
      have hj' : j < L.length := by omega
      have hgj : L[j]? = some L[j] := List.getElem?_eq_getElem hj'
      have hej := hL.lt _ (List.getElem_mem hj')
      unfold w_C_isListTangled_12
      (refine ⟨?_, ?_⟩; (focus (first | exact hasI_of (by assumption) (by decide) | exact hasR_of (by assumption) (by decide))); rintro _ rfl; try rw [hL.n])
      refine ⟨fun h => absurd ((lI (by omega) (by omega)).mp h) (by omega), fun _ => ?_⟩
      (refine ⟨?_, ?_⟩; (focus (first | exact hasI_of (by assumption) (by decide) | exact hasR_of (by assumption) (by decide))); rintro _ rfl; try rw [hR.f.li])
      refine ⟨_, rfl, ?_⟩
      (refine ⟨i, ⟨_, h2, rfl, by omega, by decide⟩, ?_⟩; rintro _ rfl; try rw [hL.at i _ hgi])
      (refine ⟨?_, ?_⟩; (focus (first | exact hasI_of (by assumption) (by decide) | exact hasR_of (by assumption) (by decide))); rintro _ rfl; try rw [hR.f.li])
      refine ⟨_, rfl, ?_⟩
      (refine ⟨j, ⟨_, h2, rfl, by omega, by decide⟩, ?_⟩; rintro _ rfl; try rw [hL.at j _ hgj])
      refine ⟨_, rfl, ?_⟩
      refine ⟨hR.isE hei, 0, 0, by omega, by omega, ?_⟩
      refine t_isAfter hw hR hei hej (fun hy => ⟨fun h => absurd h (by decide), fun _ => k1 ⟨_, List.getElem_mem hi, _, List.getElem_mem hj', hy⟩⟩) (fun hy => ⟨fun _ => ?_, fun h => absurd rfl h⟩)
      rw [nI_1]
      refine ih (j + 1) (by omega) (fun q f hq hf => ?_) kc ks hk hk'
      by_cases hqj : q = j
      · subst hqj
        rw [hgj] at hf
        rw [← Option.some.inj hf]
        exact hy
      · exact hno q f (by omega) hf
  have key : ∀ d i, i + d = L.length → (∀ q e, q < i → L[q]? = some e → ∀ f ∈ L, ¬ kn G (G.pa e) f) → ∀ kc ks, kc ≤ mc → ks ≤ ms → w_C_isListTangled_2 z mi mc ms post (d + 1) kc ks g A.c (nI i) := by
    intro d
    induction d with
    | zero =>
      intro i hi hno kc ks hk hk'
      unfold w_C_isListTangled_2
      (refine ⟨?_, ?_⟩; (focus (first | exact hasI_of (by assumption) (by decide) | exact hasR_of (by assumption) (by decide))); rintro _ rfl; try rw [hL.n])
      refine ⟨fun _ => k0 (fun e he => ?_), fun h => absurd ((lI (by omega) (by omega)).mpr (by omega)) h⟩
      obtain ⟨q, hq⟩ := List.getElem?_of_mem he
      have := (List.getElem?_eq_some_iff.mp hq).1
      exact hno q e (by omega) hq
    | succ d ih =>
      intro i hi hno kc ks hk hk'
      have hi' : i < L.length := by omega
      have hgi : L[i]? = some L[i] := List.getElem?_eq_getElem hi'
      unfold w_C_isListTangled_2
      (refine ⟨?_, ?_⟩; (focus (first | exact hasI_of (by assumption) (by decide) | exact hasR_of (by assumption) (by decide))); rintro _ rfl; try rw [hL.n])
      refine ⟨fun h => absurd ((lI (by omega) (by omega)).mp h) (by omega), fun _ => ?_⟩
      refine ⟨_, inner _ i hi' (fun kc ks hk hk' hrow => ?_) L.length 0 (by omega) (fun q f hq => absurd hq (by omega)) kc ks hk hk'⟩
      refine ih (i + 1) (by omega) (fun q e hq he => ?_) kc ks hk hk'
      by_cases hqi : q = i
      · subst hqi
        rw [hgi] at he
        rw [← Option.some.inj he]
        exact hrow
      · exact hno q e (by omega) he
  unfold w_C_isListTangled
  exact ⟨_, key L.length 0 (by omega) (fun q e hq => absurd hq (by omega)) 0 0 (by omega) (by omega)⟩
theorem t_fill {a : Nat} {x : Int32} {post : Sg → Prop} (ha : hT g a = some (100, 16)) (k : ∀ h : Nat → Int32, (∀ s, s < 16 → h s = x) → post (cI g a h)) : w_AR_fillI z mi mc ms post g (some a) x := by
  have key : ∀ d i, i + d = 16 → ∀ (h : Nat → Int32), (∀ s, s < i → h s = x) → ∀ kc ks, w_AR_fillI_5 z mi mc ms post (d + 1) kc ks (cI g a h) (some a) x (nI i) (nI 16) := by
    intro d
    induction d with
    | zero =>
      intro i hi h hh kc ks
      unfold w_AR_fillI_5
      refine ⟨fun _ => k h (fun s hs => hh s (by omega)), fun h => absurd ((lI (by omega) (by omega)).mpr (by omega)) h⟩
    | succ d ih =>
      intro i hi h hh kc ks
      unfold w_AR_fillI_5
      refine ⟨fun h => absurd ((lI (by omega) (by omega)).mp h) (by omega), fun _ => ?_⟩
      refine ⟨_, rfl, ?_⟩
      refine ⟨i, ⟨_, ha, rfl, by omega, by decide⟩, ?_⟩
      rintro _ rfl
      rw [nI_1, sI_cI, cI_cI, aI_cI]
      refine ih (i + 1) (by omega) _ (fun s hs => ?_) kc ks
      by_cases hsi : s = i
      · simp [hsi]
      · simp only [hsi, if_false]; exact hh s (by omega)
  unfold w_AR_fillI
  refine ⟨_, rfl, ?_⟩
  refine ⟨16, Or.inl ⟨_, ha, by decide, by decide⟩, ?_⟩
  rintro _ rfl
  have := key 16 0 (by omega) (aI g a) (fun s hs => absurd hs (by omega)) 0 0
  rw [cI_self] at this
  exact ⟨_, this⟩
def jv (G : AG) (e s : Nat) : Nat := if s = G.sl e then G.nu e + 1 else G.pa e s
theorem jv2M (hw : WF G) {e : Nat} (he : e < G.ne) (s : Nat) : jv G e s ≤ 8192 := by
  have h1 := hw.ne_le
  unfold jv
  split
  · have := hw.nu_lt e he
    have := hw.ct_le _ (hw.sl_lt e he)
    omega
  · by_cases hs : s < G.na
    · have := hw.pa_le e s he hs
      have := hw.ct_le s hs
      omega
    · rw [hw.pa_0 e s he (by omega)]; omega
theorem t_max {a b : Nat} (ha : a ≤ 2000000) (hb : b ≤ 2000000) {post : Int32 → Sg → Prop} (k : post (nI (max a b)) g) : w_MA_max z mi mc ms post g (nI a) (nI b) := by
  unfold w_MA_max
  rw [tI ha hb]
  refine ⟨fun h => ?_, fun h => ?_⟩
  · rw [Nat.max_eq_right (by omega)] at k; exact k
  · rw [Nat.max_eq_left (by omega)] at k; exact k
theorem t_joinTo (hw : WF G) (hR : RC z G A g) {e : Nat} (he : e < G.ne) (hV : ∀ s, s < 16 → V s ≤ 8192) {post : Sg → Prop} (h0 : Nat → Int32) (hv : ∀ s, s < 16 → h0 s = nI (V s)) (k : ∀ h : Nat → Int32, (∀ s, s < 16 → h s = nI (max (V s) (jv G e s))) → post (cI g A.vw h)) : w_E_joinTo z mi mc ms post (cI g A.vw h0) (A.ea e) (some A.vw) := by
  have h1 := hR.k.vw
  have h2 := hR.k.bf e he
  have hs := hw.sl_lt e he
  have hn := hw.na_le
  have h3 := hR.k.ga _ hs
  have hnu := nu2M hw he
  have key : ∀ d i, i + d = 16 → ∀ (h : Nat → Int32), (∀ s, s < i → h s = nI (max (V s) (A.bv e s))) → (∀ s, i ≤ s → s < 16 → h s = nI (V s)) → ∀ kc ks, kc ≤ mc → ks ≤ ms → w_E_joinTo_2 z mi mc ms post (d + 1) kc ks (cI g A.vw h) (A.ea e) (some A.vw) (nI i) := by
    intro d
    induction d with
    | zero =>
      intro i hi h hh hh' kc ks hk hk'
      have hR' := hR.vw h
      unfold w_E_joinTo_2
      refine ⟨fun _ => ?_, fun h => absurd ((lI (a := 16) (by omega) (by omega)).mpr (by omega)) h⟩
      refine ⟨hR'.hR he (by decide), ?_⟩
      rintro _ rfl
      rw [hR'.e.ag e he]
      refine ⟨_, rfl, ?_⟩
      (refine ⟨?_, ?_⟩; (focus (first | exact hasI_of (by assumption) (by decide) | exact hasR_of (by assumption) (by decide))); rintro _ rfl; try rw [hR'.f.sl _ hs])
      refine ⟨hR'.hR he (by decide), ?_⟩
      rintro _ rfl
      refine ⟨_, rfl, ?_⟩
      (refine ⟨?_, ?_⟩; (focus (first | exact hasI_of (by assumption) (by decide) | exact hasR_of (by assumption) (by decide))); rintro _ rfl; try rw [hR'.f.sl _ hs])
      refine ⟨_, rfl, ?_⟩
      refine ⟨G.sl e, ⟨_, h1, rfl, by omega, by decide⟩, ?_⟩
      rintro _ rfl
      refine ⟨hR'.hI he (by decide), ?_⟩
      rintro _ rfl
      rw [hR'.e.nu e he, aI_cI, hh _ (by omega), nI_1]
      refine ⟨0, 0, by omega, by omega, ?_⟩
      have b1 := hV (G.sl e) (by omega)
      have b2 := hR.e.own e he
      have b3 := jv2M hw he (G.sl e)
      have b4 : jv G e (G.sl e) = G.nu e + 1 := by simp [jv]
      refine t_max (by omega) (by omega) ?_
      refine ⟨G.sl e, ⟨_, h1, rfl, by omega, by decide⟩, ?_⟩
      rintro _ rfl
      rw [sI_cI, cI_cI, aI_cI]
      refine k _ (fun s hs' => ?_)
      by_cases hse : s = G.sl e
      · simp only [hse, if_true, b4]
        congr 1
        omega
      · simp only [hse, if_false]
        rw [hh s (by omega), hR.e.pa e s he hs' hse]
        simp [jv, hse]
    | succ d ih =>
      intro i hi h hh hh' kc ks hk hk'
      have hR' := hR.vw h
      unfold w_E_joinTo_2
      refine ⟨fun h => absurd ((lI (a := 16) (by omega) (by omega)).mp h) (by omega), fun _ => ?_⟩
      refine ⟨_, rfl, ?_⟩
      refine ⟨i, ⟨_, h1, rfl, by omega, by decide⟩, ?_⟩
      rintro _ rfl
      refine ⟨hR'.hR he (by decide), ?_⟩
      rintro _ rfl
      rw [hR'.e.bf e he]
      refine ⟨_, rfl, ?_⟩
      refine ⟨i, ⟨_, h2, rfl, by omega, by decide⟩, ?_⟩
      rintro _ rfl
      rw [hR'.e.bv e i he (by omega), aI_cI, hh' i (by omega) (by omega)]
      refine ⟨0, 0, by omega, by omega, ?_⟩
      have b1 := hV i (by omega)
      refine t_max (by omega) (bv2M hw hR he (by omega)) ?_
      refine ⟨i, ⟨_, h1, rfl, by omega, by decide⟩, ?_⟩
      rintro _ rfl
      rw [nI_1, sI_cI, cI_cI, aI_cI]
      refine ih (i + 1) (by omega) _ (fun s hs' => ?_) (fun s h1' h2' => ?_) kc ks hk hk'
      · by_cases hsi : s = i
        · simp [hsi]
        · simp only [hsi, if_false]; exact hh s (by omega)
      · have : s ≠ i := by omega
        simp only [this, if_false]
        exact hh' s (by omega) h2'
  unfold w_E_joinTo
  exact ⟨_, key 16 0 (by omega) h0 (fun s hs => absurd hs (by omega)) (fun s _ hs => hv s hs) 0 0 (by omega) (by omega)⟩
def vL (G : AG) (L : List Nat) (s : Nat) : Nat := L.foldl (fun m e => max m (jv G e s)) 0
theorem vL_le (hw : WF G) {s : Nat} : ∀ (L : List Nat) (m : Nat), (∀ e ∈ L, e < G.ne) → m ≤ 8192 → L.foldl (fun m e => max m (jv G e s)) m ≤ 8192 := by
  intro L
  induction L with
  | nil => intro m _ h; exact h
  | cons e L ih =>
    intro m h hm
    have := jv2M hw (h e List.mem_cons_self) s
    exact ih _ (fun x hx => h x (List.mem_cons_of_mem _ hx)) (by show max m (jv G e s) ≤ 8192; omega)
theorem t_look (hw : WF G) (hR : RC z G A g) (hL : RCi G A L g) {post : Sg → Prop} (k : ∀ h : Nat → Int32, (∀ s, s < 16 → h s = nI (vL G L s)) → post (cI g A.vw h)) : w_C_lookFromList z mi mc ms post g A.c := by
  have h1 := hR.k.c
  have h2 := hR.k.li
  have h3 := hR.k.vw
  have hle := hL.le
  have key : ∀ d i, i + d = L.length → ∀ (h : Nat → Int32), (∀ s, s < 16 → h s = nI (vL G (L.take i) s)) → ∀ kc ks, kc ≤ mc → ks ≤ ms → w_C_lookFromList_10 z mi mc ms post (d + 1) kc ks (cI g A.vw h) A.c (nI i) := by
    intro d
    induction d with
    | zero =>
      intro i hi h hh kc ks hk hk'
      have hL' := hL.vw h
      unfold w_C_lookFromList_10
      (refine ⟨?_, ?_⟩; (focus (first | exact hasI_of (by assumption) (by decide) | exact hasR_of (by assumption) (by decide))); rintro _ rfl; try rw [hL'.n])
      refine ⟨fun _ => k h (fun s hs => ?_), fun h => absurd ((lI (by omega) (by omega)).mpr (by omega)) h⟩
      rw [hh s hs, List.take_of_length_le (by omega)]
    | succ d ih =>
      intro i hi h hh kc ks hk hk'
      have hi' : i < L.length := by omega
      have hg : L[i]? = some L[i] := List.getElem?_eq_getElem hi'
      have he := hL.lt _ (List.getElem_mem hi')
      have hR' := hR.vw h
      have hL' := hL.vw h
      unfold w_C_lookFromList_10
      (refine ⟨?_, ?_⟩; (focus (first | exact hasI_of (by assumption) (by decide) | exact hasR_of (by assumption) (by decide))); rintro _ rfl; try rw [hL'.n])
      refine ⟨fun h => absurd ((lI (by omega) (by omega)).mp h) (by omega), fun _ => ?_⟩
      (refine ⟨?_, ?_⟩; (focus (first | exact hasI_of (by assumption) (by decide) | exact hasR_of (by assumption) (by decide))); rintro _ rfl; try rw [hR'.f.li])
      refine ⟨_, rfl, ?_⟩
      (refine ⟨i, ⟨_, h2, rfl, by omega, by decide⟩, ?_⟩; rintro _ rfl; try rw [hL'.at i _ hg])
      (refine ⟨?_, ?_⟩; (focus (first | exact hasI_of (by assumption) (by decide) | exact hasR_of (by assumption) (by decide))); rintro _ rfl; try rw [hR'.f.vw])
      refine ⟨_, rfl, ?_⟩
      refine ⟨hR'.isE he, 0, 0, by omega, by omega, ?_⟩
      refine t_joinTo hw hR he (V := vL G (L.take i)) (fun s _ => vL_le hw _ _ (fun x hx => hL.lt x (List.mem_of_mem_take hx)) (by omega)) h hh (fun h' hh' => ?_)
      rw [nI_1]
      refine ih (i + 1) (by omega) h' (fun s hs => ?_) kc ks hk hk'
      rw [hh' s hs, List.take_add_one, hg]
      unfold vL
      rw [List.foldl_append]
      rfl
  unfold w_C_lookFromList
  (refine ⟨?_, ?_⟩; (focus (first | exact hasI_of (by assumption) (by decide) | exact hasR_of (by assumption) (by decide))); rintro _ rfl; try rw [hR.f.vw])
  refine ⟨0, 0, by omega, by omega, ?_⟩
  refine t_fill h3 (fun h hh => ⟨_, key L.length 0 (by omega) h (fun s hs => ?_) 0 0 (by omega) (by omega)⟩)
  rw [hh s hs]; rfl
end CV
