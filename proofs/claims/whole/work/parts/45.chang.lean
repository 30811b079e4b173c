section CH
variable {z mi mc ms : Nat} {G : AG} {A : CA} {g : Sg} {V : Nat → Nat}
def ob (g g2 : Sg) : Prop := (hT g2 = hT g) ∧ (fI g2 = fI g) ∧ (∀ f, f < 14 ∨ 18 < f → fR g2 f = fR g f) ∧ (aI g2 = aI g) ∧ (aR g2 = aR g) ∧ (aL g2 = aL g)
theorem ob.t {g g2 : Sg} (h : ob g g2) : hT g2 = hT g := h.1
theorem ob.i {g g2 : Sg} (h : ob g g2) : fI g2 = fI g := h.2.1
theorem ob.r {g g2 : Sg} (h : ob g g2) : ∀ f, f < 14 ∨ 18 < f → fR g2 f = fR g f := h.2.2.1
theorem ob.ai {g g2 : Sg} (h : ob g g2) : aI g2 = aI g := h.2.2.2.1
theorem ob.ar {g g2 : Sg} (h : ob g g2) : aR g2 = aR g := h.2.2.2.2.1
theorem ob.al {g g2 : Sg} (h : ob g g2) : aL g2 = aL g := h.2.2.2.2.2
theorem ob.mk {g g2 : Sg} (h0 : hT g2 = hT g) (h1 : fI g2 = fI g) (h2 : ∀ f, f < 14 ∨ 18 < f → fR g2 f = fR g f) (h3 : aI g2 = aI g) (h4 : aR g2 = aR g) (h5 : aL g2 = aL g) : ob g g2 := ⟨h0, h1, h2, h3, h4, h5⟩
theorem ob.refl (g : Sg) : ob g g := ob.mk rfl rfl (fun _ _ => rfl) rfl rfl rfl
theorem ob.trans {g1 g2 g3 : Sg} (h : ob g1 g2) (h' : ob g2 g3) : ob g1 g3 := ob.mk (h'.t.trans h.t) (h'.i.trans h.i) (fun f hf => (h'.r f hf).trans (h.r f hf)) (h'.ai.trans h.ai) (h'.ar.trans h.ar) (h'.al.trans h.al)
theorem fR_wR (g : Sg) (f a : Nat) (v : Option Nat) : fR (wR g f a v) f = fun q => if q = a then v else fR g f q := by
  funext q; simp [fR, wR]
theorem fR_wR_ne (g : Sg) {f f' : Nat} (a : Nat) (v : Option Nat) (h : f' ≠ f) : fR (wR g f a v) f' = fR g f' := by
  funext q; simp [fR, wR, h]
theorem ob.w (g : Sg) {f : Nat} (a : Nat) (v : Option Nat) (h1 : 14 ≤ f) (h2 : f ≤ 18) : ob g (wR g f a v) := ob.mk rfl rfl (fun f' hf => fR_wR_ne g a v (by omega)) rfl rfl rfl
theorem chn_congr {f f' : Nat → Option Nat} : ∀ (l : List Nat) (o : Option Nat), (∀ x ∈ l, f' x = f x) → chn f o l → chn f' o l := by
  intro l
  induction l with
  | nil => intro o _ h; exact h
  | cons x l ih =>
    intro o h hc
    refine ⟨hc.1, ?_⟩
    rw [h x List.mem_cons_self]
    exact ih _ (fun y hy => h y (List.mem_cons_of_mem _ hy)) hc.2
theorem chn_ins {f f' : Nat → Option Nat} {X a : Nat} {v : List Nat} (hf' : f' = fun q => if q = X then some a else if q = a then f X else f q) : ∀ (u : List Nat) (o : Option Nat), (u ++ X :: v).Nodup → a ∉ u ++ X :: v → chn f o (u ++ X :: v) → chn f' o (u ++ X :: a :: v) := by
  intro u
  induction u with
  | nil =>
    intro o hn ha h
    have hXa : a ≠ X := fun e => ha (by rw [e]; exact List.mem_cons_self)
    have hXv := (List.nodup_cons.mp hn).1
    refine ⟨h.1, ?_, ?_⟩
    · rw [hf']; simp
    · have : f' a = f X := by rw [hf']; simp [hXa]
      rw [this]
      refine chn_congr _ _ (fun x hx => ?_) h.2
      have h1 : x ≠ X := fun e => hXv (e ▸ hx)
      have h2 : x ≠ a := fun e => ha (List.mem_cons_of_mem _ (e ▸ hx))
      rw [hf']; simp [h1, h2]
  | cons y u ih =>
    intro o hn ha h
    have hn2 := List.nodup_cons.mp hn
    have h1 : y ≠ X := fun e => hn2.1 (by rw [e]; exact List.mem_append_right _ List.mem_cons_self)
    have h2 : y ≠ a := fun e => ha (by rw [e]; exact List.mem_cons_self)
    refine ⟨h.1, ?_⟩
    have : f' y = f y := by rw [hf']; simp [h1, h2]
    rw [this]
    exact ih _ hn2.2 (fun hm => ha (List.mem_cons_of_mem _ hm)) h.2
theorem chn_put {f f' : Nat → Option Nat} {a : Nat} {v : List Nat} {o : Option Nat} (h1 : f' a = o) (h2 : ∀ x ∈ v, f' x = f x) (h : chn f o v) : chn f' (some a) (a :: v) := ⟨rfl, by rw [h1]; exact chn_congr _ _ h2 h⟩
theorem prv_congr {f f' : Nat → Option Nat} : ∀ (l : List Nat), (∀ x ∈ l, f' x = f x) → prv f l → prv f' l := by
  intro l
  induction l with
  | nil => intro _ _; trivial
  | cons x l ih =>
    intro h hp
    refine ⟨fun y hy => ?_, ih (fun y hy => h y (List.mem_cons_of_mem _ hy)) hp.2⟩
    rw [h y (List.mem_cons_of_mem _ (List.mem_of_mem_head? hy))]
    exact hp.1 y hy
theorem prv_ins {f f' : Nat → Option Nat} {X a : Nat} {v : List Nat} (h1 : f' a = some X) (h2 : ∀ y, v.head? = some y → f' y = some a) (h3 : ∀ y, y ≠ a → v.head? ≠ some y → f' y = f y) : ∀ (u : List Nat), (u ++ X :: v).Nodup → a ∉ u ++ X :: v → prv f (u ++ X :: v) → prv f' (u ++ X :: a :: v) := by
  intro u
  induction u with
  | nil =>
    intro hn ha h
    refine ⟨fun y hy => ?_, fun y hy => h2 y hy, ?_⟩
    · have : a = y := by simpa using hy
      rw [← this]; exact h1
    · cases v with
      | nil => trivial
      | cons y v =>
        have hn2 := List.nodup_cons.mp (List.nodup_cons.mp hn).2
        refine ⟨fun q hq => ?_, ?_⟩
        · have hqm := List.mem_of_mem_head? hq
          rw [h3 q (fun e => ha (e ▸ (List.mem_cons_of_mem _ (List.mem_cons_of_mem _ hqm)))) (fun e => hn2.1 (by rw [Option.some.inj (e : some y = some q)]; exact hqm))]
          exact h.2.1 q hq
        · refine prv_congr _ (fun q hqm => h3 q (fun e => ha (e ▸ (List.mem_cons_of_mem _ (List.mem_cons_of_mem _ hqm)))) (fun e => hn2.1 (by rw [Option.some.inj (e : some y = some q)]; exact hqm))) h.2.2
  | cons y u ih =>
    intro hn ha h
    have hn2 := List.nodup_cons.mp hn
    refine ⟨fun q hq => ?_, ih hn2.2 (fun hm => ha (List.mem_cons_of_mem _ hm)) h.2⟩
    have hq' : (u ++ X :: v).head? = some q := by
      cases u with
      | nil => simpa using hq
      | cons b u => simpa using hq
    have hqm : q ∈ u ++ X :: v := List.mem_of_mem_head? hq'
    rw [h3 q (fun e => ha (e ▸ List.mem_cons_of_mem _ hqm)) (fun e => ?_)]
    · exact h.1 q hq'
    · have hqv : q ∈ v := List.mem_of_mem_head? e
      cases u with
      | nil =>
        have : X = q := by simpa using hq'
        have hn3 : (X :: v).Nodup := hn2.2
        exact (List.nodup_cons.mp hn3).1 (this ▸ hqv)
      | cons b u =>
        have : b = q := by simpa using hq'
        have hn3 := List.nodup_cons.mp hn2.2
        exact hn3.1 (this ▸ List.mem_append_right _ (List.mem_cons_of_mem _ hqv))
theorem t_putBehind {X a : Nat} (hX : hT g X = some (3, 13)) (ha : hT g a = some (3, 13)) (hne : a ≠ X) (hs : ∀ q, fR g 18 X = some q → hT g q = some (3, 13) ∧ q ≠ a) {post : Sg → Prop}
    (k : ∀ g2, ob g g2 → (∀ f, f ≠ 17 → f ≠ 18 → fR g2 f = fR g f) → (fR g2 18 = fun q => if q = X then some a else if q = a then fR g 18 X else fR g 18 q) → (fR g2 17 = fun q => if fR g 18 X = some q then some a else if q = a then some X else fR g 17 q) → post g2) : w_N_putBehind z mi mc ms post g X (some a) := by
  unfold w_N_putBehind
  refine ⟨_, rfl, ?_⟩
  (refine ⟨?_, ?_⟩; (focus (first | exact hasI_of (by assumption) (by decide) | exact hasR_of (by assumption) (by decide))); rintro _ rfl)
  refine ⟨hasR_of hX (by decide), ?_⟩
  rintro _ rfl
  refine ⟨hasR_of ha (by decide), ?_⟩
  rintro _ rfl
  refine ⟨hasR_of hX (by decide), ?_⟩
  rintro _ rfl
  have e1 : fR (wR (wR g 17 a (some X)) 18 a (fR (wR g 17 a (some X)) 18 X)) 18 X = fR g 18 X := by
    rw [fR_wR]; simp only [Ne.symm hne, if_false]; rw [fR_wR_ne _ _ _ (by decide)]
  rw [e1, fR_wR_ne _ _ _ (by decide : (18 : Nat) ≠ 17)]
  refine ⟨fun h => ?_, fun q hq => ?_⟩
  · refine ⟨hasR_of hX (by decide), ?_⟩
    rintro _ rfl
    refine k _ (((ob.w g a _ (by decide) (by decide)).trans (ob.w _ a _ (by decide) (by decide))).trans (ob.w _ X _ (by decide) (by decide))) (fun f h1 h2 => ?_) ?_ ?_
    · rw [fR_wR_ne _ _ _ h2, fR_wR_ne _ _ _ h2, fR_wR_ne _ _ _ h1]
    · rw [fR_wR, fR_wR, fR_wR_ne _ _ _ (by decide)]
    · rw [fR_wR_ne _ _ _ (by decide), fR_wR_ne _ _ _ (by decide), fR_wR]
      funext q
      rw [h]
      simp
  · refine ⟨hasR_of hX (by decide), ?_⟩
    rintro _ rfl
    refine ⟨q, hq, ?_⟩
    obtain ⟨hq1, hq2⟩ := hs q hq
    refine ⟨hasR_of hq1 (by decide), ?_⟩
    rintro _ rfl
    refine ⟨hasR_of hX (by decide), ?_⟩
    rintro _ rfl
    refine k _ ((((ob.w g a _ (by decide) (by decide)).trans (ob.w _ a _ (by decide) (by decide))).trans (ob.w _ q _ (by decide) (by decide))).trans (ob.w _ X _ (by decide) (by decide))) (fun f h1 h2 => ?_) ?_ ?_
    · rw [fR_wR_ne _ _ _ h2, fR_wR_ne _ _ _ h1, fR_wR_ne _ _ _ h2, fR_wR_ne _ _ _ h1]
    · rw [fR_wR, fR_wR_ne _ _ _ (by decide), fR_wR, fR_wR_ne _ _ _ (by decide)]
    · rw [fR_wR_ne _ _ _ (by decide), fR_wR, fR_wR_ne _ _ _ (by decide), fR_wR]
      funext r
      rw [hq]
      by_cases hr : r = q
      · simp [hr]
      · have : ¬ q = r := fun e => hr e.symm
        simp [hr, this]
def lf (G : AG) (s y : Nat) : Prop := G.nm (G.sl y) < G.nm s ∨ G.sl y = s
theorem t_smaller (hw : WF G) (hR : RC z G A g) {e a s : Nat} (he : e < G.ne) (hs : s < G.na) (ha : hT g a = some (3, 13)) (ha7 : fR g 7 a = some (A.ga s)) (ha8 : fI g 8 a = nI (G.ct s)) {post : Int32 → Sg → Prop} (k1 : lf G s e → post 1 g) (k0 : ¬ lf G s e → post 0 g) : w_E_hasSmallerIdThan z mi mc ms post g (A.ea e) (some a) := by
  have hse := hw.sl_lt e he
  have g1 := hR.k.ga _ hse
  have g2 := hR.k.ga _ hs
  have n1 := hw.nm_le _ hse
  have n2 := hw.nm_le _ hs
  unfold w_E_hasSmallerIdThan
  refine ⟨hR.hR he (by decide), ?_⟩
  rintro _ rfl
  rw [hR.e.ag e he]
  refine ⟨_, rfl, ?_⟩
  (refine ⟨?_, ?_⟩; (focus (first | exact hasI_of (by assumption) (by decide) | exact hasR_of (by assumption) (by decide))); rintro _ rfl; try rw [ha7])
  refine ⟨fun h => ?_, fun h => ?_⟩
  · have hne : G.sl e ≠ s := fun h' => h (by rw [h'])
    refine ⟨hR.hR he (by decide), ?_⟩
    rintro _ rfl
    try rw [hR.e.ag e he]
    refine ⟨_, rfl, ?_⟩
    (refine ⟨?_, ?_⟩; (focus (first | exact hasI_of (by assumption) (by decide) | exact hasR_of (by assumption) (by decide))); rintro _ rfl; try rw [hR.f.nm _ hse])
    refine ⟨hasR_of ha (by decide), ?_⟩
    rintro _ rfl
    try rw [ha7]
    refine ⟨_, rfl, ?_⟩
    (refine ⟨?_, ?_⟩; (focus (first | exact hasI_of (by assumption) (by decide) | exact hasR_of (by assumption) (by decide))); rintro _ rfl; try rw [hR.f.nm _ hs])
    rw [lI (by omega) (by omega)]
    refine ⟨fun h => k0 (fun h' => ?_), fun h => k1 (Or.inl (by omega))⟩
    rcases h' with h' | h'
    · omega
    · exact hne h'
  · have hse' : G.sl e = s := hR.k.ga_inj _ _ hse hs (Option.some.inj h)
    refine ⟨hR.hI he (by decide), ?_⟩
    rintro _ rfl
    refine ⟨hasI_of ha (by decide), ?_⟩
    rintro _ rfl
    rw [hR.e.nu e he, ha8, lI (ct2M hw hs) (nu2M hw he)]
    have := hw.nu_lt e he
    rw [hse'] at this
    exact ⟨fun h => absurd h (by omega), fun _ => k1 (Or.inr hse')⟩
theorem t_lastSmaller (hw : WF G) (hR : RC z G A g) {a s : Nat} (hs : s < G.na) (ha : hT g a = some (3, 13)) (ha7 : fR g 7 a = some (A.ga s)) (ha8 : fI g 8 a = nI (G.ct s)) {l1 l2 : List Nat} {o : Option Nat} (hl : ∀ y ∈ l1 ++ l2, ∃ e, y = e + 1 ∧ e < G.ne ∧ G.ins e = true) (h1 : ∀ y ∈ l1, lf G s (y - 1)) (h2 : ∀ y ∈ l2, ¬ lf G s (y - 1)) (ho : chn (fR g 16) o ((l1 ++ l2).map (nd A))) {post : Option Nat → Sg → Prop} (k0 : l1 = [] → post none g) (k1 : ∀ l y, l1 = l ++ [y] → post (some (nd A y)) g) : w_N_lastSmaller z mi mc ms post g a o := by
  have tail : ∀ (l2 : List Nat), (∀ y ∈ l2, ∃ e, y = e + 1 ∧ e < G.ne ∧ G.ins e = true) → (∀ y ∈ l2, ¬ lf G s (y - 1)) → ∀ o v2, chn (fR g 16) o (l2.map (nd A)) → post v2 g → ∀ n kc ks, l2.length < n → kc ≤ mc → ks ≤ ms → w_N_lastSmaller_4 z mi mc ms post n kc ks g a v2 o := by
    intro l2
    induction l2 with
    | nil =>
      intro _ _ o v2 ho k n kc ks hn hk hk'
      have : o = none := ho
      subst this
      cases n with
      | zero => exact absurd hn (by omega)
      | succ n =>
        unfold w_N_lastSmaller_4
        exact ⟨fun _ => k, (fun _ h => nomatch h)⟩
    | cons y l2 ih =>
      intro hl hq o v2 ho k n kc ks hn hk hk'
      obtain ⟨rfl, ho2⟩ := ho
      obtain ⟨e, rfl, he, hi⟩ := hl y List.mem_cons_self
      have hke := hR.k.ea e he
      rw [if_pos hi] at hke
      cases n with
      | zero => exact absurd hn (by omega)
      | succ n =>
        show w_N_lastSmaller_4 z mi mc ms post (n + 1) kc ks g a v2 (some (A.ea e))
        unfold w_N_lastSmaller_4
        refine ⟨(fun h => nomatch h), ?_⟩
        rintro _ ⟨⟩
        refine ⟨⟨_, _, by assumption, by decide⟩, 0, 0, by omega, by omega, ?_⟩
        refine t_smaller hw hR he hs ha ha7 ha8 (fun h => absurd h (hq (e + 1) List.mem_cons_self)) (fun _ => ⟨fun _ => ?_, fun h => absurd rfl h⟩)
        (refine ⟨?_, ?_⟩; (focus (first | exact hasI_of (by assumption) (by decide) | exact hasR_of (by assumption) (by decide))); rintro _ rfl)
        exact ih (fun x hx => hl x (List.mem_cons_of_mem _ hx)) (fun x hx => hq x (List.mem_cons_of_mem _ hx)) _ v2 ho2 k n kc ks (by rw [List.length_cons] at hn; omega) hk hk'
  have main : ∀ (l1 : List Nat), (∀ y ∈ l1 ++ l2, ∃ e, y = e + 1 ∧ e < G.ne ∧ G.ins e = true) → (∀ y ∈ l1, lf G s (y - 1)) → ∀ o v2, chn (fR g 16) o ((l1 ++ l2).map (nd A)) → (l1 = [] → post v2 g) → (∀ l y, l1 = l ++ [y] → post (some (nd A y)) g) → ∀ n kc ks, (l1 ++ l2).length < n → kc ≤ mc → ks ≤ ms → w_N_lastSmaller_4 z mi mc ms post n kc ks g a v2 o := by
    intro l1
    induction l1 with
    | nil =>
      intro hl _ o v2 ho k0 _ n kc ks hn hk hk'
      exact tail l2 hl h2 o v2 ho (k0 rfl) n kc ks hn hk hk'
    | cons y l1 ih =>
      intro hl hq o v2 ho k0 k1 n kc ks hn hk hk'
      obtain ⟨rfl, ho2⟩ := ho
      obtain ⟨e, rfl, he, hi⟩ := hl y List.mem_cons_self
      have hke := hR.k.ea e he
      rw [if_pos hi] at hke
      cases n with
      | zero => exact absurd hn (by omega)
      | succ n =>
        show w_N_lastSmaller_4 z mi mc ms post (n + 1) kc ks g a v2 (some (A.ea e))
        unfold w_N_lastSmaller_4
        refine ⟨(fun h => nomatch h), ?_⟩
        rintro _ ⟨⟩
        refine ⟨⟨_, _, by assumption, by decide⟩, 0, 0, by omega, by omega, ?_⟩
        refine t_smaller hw hR he hs ha ha7 ha8 (fun _ => ⟨fun h => absurd h (by decide), fun _ => ?_⟩) (fun h => absurd (hq (e + 1) List.mem_cons_self) h)
        (refine ⟨?_, ?_⟩; (focus (first | exact hasI_of (by assumption) (by decide) | exact hasR_of (by assumption) (by decide))); rintro _ rfl)
        refine ih (fun x hx => hl x (List.mem_cons_of_mem _ hx)) (fun x hx => hq x (List.mem_cons_of_mem _ hx)) _ _ ho2 (fun h => k1 [] (e + 1) (by rw [h]; rfl)) (fun l y h => k1 ((e + 1) :: l) y (by rw [h]; rfl)) n kc ks (by rw [List.cons_append, List.length_cons] at hn; omega) hk hk'
  unfold w_N_lastSmaller
  exact ⟨_, main l1 hl h1 o none ho k0 k1 _ 0 0 (Nat.lt_succ_self _) (by omega) (by omega)⟩
theorem t_lastSibling {post : Option Nat → Sg → Prop} {X : Nat} {l : List Nat} (hk : ∀ x ∈ X :: l, hT g x = some (3, 13)) (hc : chn (fR g 16) (some X) (X :: l)) (k : ∀ w y, X :: l = w ++ [y] → post (some y) g) : w_N_lastSibling z mi mc ms post g X := by
  have loop : ∀ (l : List Nat) (X : Nat), (∀ x ∈ X :: l, hT g x = some (3, 13)) → chn (fR g 16) (some X) (X :: l) → (∀ w y, X :: l = w ++ [y] → post (some y) g) → ∀ kc ks, w_N_lastSibling_2 z mi mc ms post (l.length + 1) kc ks g (some X) := by
    intro l
    induction l with
    | nil =>
      intro X hk hc k kc ks
      have hX := hk X List.mem_cons_self
      have hn : fR g 16 X = none := hc.2
      unfold w_N_lastSibling_2
      refine ⟨_, rfl, ?_⟩
      (refine ⟨?_, ?_⟩; (focus (first | exact hasI_of (by assumption) (by decide) | exact hasR_of (by assumption) (by decide))); rintro _ rfl; try rw [hn])
      exact ⟨fun _ => k [] X rfl, (fun _ h => nomatch h)⟩
    | cons Y l ih =>
      intro X hk hc k kc ks
      have hX := hk X List.mem_cons_self
      have hn : fR g 16 X = some Y := hc.2.1
      show w_N_lastSibling_2 z mi mc ms post ((l.length + 1) + 1) kc ks g (some X)
      unfold w_N_lastSibling_2
      refine ⟨_, rfl, ?_⟩
      (refine ⟨?_, ?_⟩; (focus (first | exact hasI_of (by assumption) (by decide) | exact hasR_of (by assumption) (by decide))); rintro _ rfl; try rw [hn])
      refine ⟨(fun h => nomatch h), fun _ _ => ?_⟩
      (refine ⟨?_, ?_⟩; (focus (first | exact hasI_of (by assumption) (by decide) | exact hasR_of (by assumption) (by decide))); rintro _ rfl; try rw [hn])
      exact ih Y (fun x hx => hk x (List.mem_cons_of_mem _ hx)) ⟨rfl, hc.2.2⟩ (fun w y h => k (X :: w) y (by rw [h]; rfl)) kc ks
  unfold w_N_lastSibling
  exact ⟨_, loop l X hk hc k 0 0⟩
theorem t_lastBelow (hw : WF G) (hR : RC z G A g) {x : Nat} (hx : x ∈ od G) {post : Option Nat → Sg → Prop} (k : ∀ w y, tr_S G.k 8193 x = w ++ [y] → post (some (nd A y)) g) : w_N_lastBelow z mi mc ms post g (nd A x) := by
  have hlt : ∀ x, x ∈ od G → x < 8193 := fun x hx => (tr_ge hw.tr 0 (by decide) x hx).2
  have loop : ∀ x, x < 8193 → x ∈ od G → (∀ w y, tr_S G.k 8193 x = w ++ [y] → post (some (nd A y)) g) → ∀ n kc ks, 8193 - x ≤ n → kc ≤ mc → ks ≤ ms → w_N_lastBelow_7 z mi mc ms post n kc ks g (some (nd A x)) (fR g 15 (nd A x)) := by
    refine tr_ind hw.tr (fun x hxM ih hx k n kc ks hn hk hk' => ?_)
    cases n with
    | zero => exact absurd hn (by omega)
    | succ n =>
      have hc := (hR.s x hx true)
      unfold w_N_lastBelow_7
      cases hl : G.k x true with
      | nil =>
        rw [hl] at hc
        have hn : fR g 15 (nd A x) = none := hc
        rw [hn]
        exact ⟨fun _ => k _ _ (tr_lastE hw.tr hxM hl), (fun _ h => nomatch h)⟩
      | cons c l =>
        rw [hl] at hc
        have hn : fR g 15 (nd A x) = some (nd A c) := hc.1
        rw [hn]
        refine ⟨(fun h => nomatch h), ?_⟩
        rintro _ ⟨⟩
        have hkid : ∀ y ∈ c :: l, y ∈ od G := fun y hy => od_kid hw hx (by rw [hl]; exact hy)
        have hkc := hR.kN hw (hkid c List.mem_cons_self)
        refine ⟨⟨_, _, by assumption, by decide⟩, 0, 0, by omega, by omega, ?_⟩
        refine t_lastSibling (l := l.map (nd A)) (fun y hy => ?_) ⟨rfl, hc.2⟩ (fun w y h => ?_)
        · have hy' : y ∈ (c :: l).map (nd A) := hy
          obtain ⟨q, hq, rfl⟩ := List.mem_map.mp hy'
          exact hR.kN hw (hkid q hq)
        · have h' : (c :: l).map (nd A) = w ++ [y] := h
          obtain ⟨w', y', e1, -, e3⟩ := List.map_eq_append_iff.mp h'
          obtain ⟨y'', l'', rfl, rfl, e4⟩ := List.map_eq_cons_iff.mp e3
          have e5 : l'' = [] := List.map_eq_nil_iff.mp e4
          subst e5
          have hm : y'' ∈ c :: l := by rw [e1]; exact List.mem_append_right _ List.mem_cons_self
          have hmk : y'' ∈ G.k x true := by rw [hl]; exact hm
          have hky := hR.kN hw (hkid _ hm)
          refine ⟨_, rfl, ?_⟩
          (refine ⟨?_, ?_⟩; (focus (first | exact hasI_of (by assumption) (by decide) | exact hasR_of (by assumption) (by decide))); rintro _ rfl)
          refine ih true y'' hmk (hkid _ hm) (fun w2 q hq => ?_) n kc ks (by have := hw.tr x true y'' hmk; omega) hk hk'
          obtain ⟨w3, h3⟩ := tr_lastS hw.tr hxM (hl.trans e1)
          exact k (w3 ++ w2) q (by rw [h3, hq, List.append_assoc])
  have hkx := hR.kN hw hx
  unfold w_N_lastBelow
  (refine ⟨?_, ?_⟩; (focus (first | exact hasI_of (by assumption) (by decide) | exact hasR_of (by assumption) (by decide))); rintro _ rfl)
  exact ⟨_, loop x (hlt x hx) hx k _ 0 0 (Nat.le_refl _) (by omega) (by omega)⟩
theorem t_firstBelow (hw : WF G) (hR : RC z G A g) {x : Nat} (hx : x ∈ od G) {post : Option Nat → Sg → Prop} (k : ∀ w y, tr_S G.k 8193 x = y :: w → post (some (nd A y)) g) : w_N_firstBelow z mi mc ms post g (nd A x) := by
  have hlt : ∀ x, x ∈ od G → x < 8193 := fun x hx => (tr_ge hw.tr 0 (by decide) x hx).2
  have loop : ∀ x, x < 8193 → x ∈ od G → (∀ w y, tr_S G.k 8193 x = y :: w → post (some (nd A y)) g) → ∀ n kc ks, 8193 - x ≤ n → w_N_firstBelow_2 z mi mc ms post n kc ks g (some (nd A x)) := by
    refine tr_ind hw.tr (fun x hxM ih hx k n kc ks hn => ?_)
    cases n with
    | zero => exact absurd hn (by omega)
    | succ n =>
      have hc := (hR.s x hx false)
      have hkx := hR.kN hw hx
      unfold w_N_firstBelow_2
      refine ⟨_, rfl, ?_⟩
      cases hl : G.k x false with
      | nil =>
        rw [hl] at hc
        have hn : fR g 14 (nd A x) = none := hc
        (refine ⟨?_, ?_⟩; (focus (first | exact hasI_of (by assumption) (by decide) | exact hasR_of (by assumption) (by decide))); rintro _ rfl; try rw [hn])
        exact ⟨fun _ => k _ _ (tr_firstE hw.tr hxM hl), (fun _ h => nomatch h)⟩
      | cons c l =>
        rw [hl] at hc
        have hn : fR g 14 (nd A x) = some (nd A c) := hc.1
        (refine ⟨?_, ?_⟩; (focus (first | exact hasI_of (by assumption) (by decide) | exact hasR_of (by assumption) (by decide))); rintro _ rfl; try rw [hn])
        refine ⟨(fun h => nomatch h), fun _ _ => ?_⟩
        (refine ⟨?_, ?_⟩; (focus (first | exact hasI_of (by assumption) (by decide) | exact hasR_of (by assumption) (by decide))); rintro _ rfl; try rw [hn])
        have hm : c ∈ G.k x false := by rw [hl]; exact List.mem_cons_self
        refine ih false c hm (od_kid hw hx hm) (fun w y hy => ?_) n kc ks (by have := hw.tr x false c hm; omega)
        obtain ⟨w3, h3⟩ := tr_firstS hw.tr hxM hl
        exact k (w ++ w3) y (by rw [h3, hy]; rfl)
  unfold w_N_firstBelow
  exact ⟨_, loop x (hlt x hx) hx k _ 0 0 (Nat.le_refl _)⟩
end CH
