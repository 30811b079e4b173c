section CA1
variable {z mi mc ms : Nat} {G : AG} {A : CA} {g : Sg} {V : Nat → Nat}
theorem hT9 (g : Sg) (a k n : Nat) : hT (nO g a k n) a = some (k, n) := by simp [hT, nO]
theorem hT9n (g : Sg) {a k n q : Nat} (h : q ≠ a) : hT (nO g a k n) q = hT g q := by simp [hT, nO, h]
theorem fI_nO_ne (g : Sg) {a k n q f : Nat} (h : q ≠ a) : fI (nO g a k n) f q = fI g f q := by simp [fI, nO, h]
theorem fR_nO_ne (g : Sg) {a k n q f : Nat} (h : q ≠ a) : fR (nO g a k n) f q = fR g f q := by simp [fR, nO, h]
theorem fI_nO (g : Sg) {a k n f : Nat} : fI (nO g a k n) f a = 0 := by simp [fI, nO]
theorem fR_nO (g : Sg) {a k n f : Nat} : fR (nO g a k n) f a = none := by simp [fR, nO]
theorem aI_nO_ne (g : Sg) {a k n q : Nat} (h : q ≠ a) : aI (nO g a k n) q = aI g q := by funext i; simp [aI, nO, h]
theorem aR_nO_ne (g : Sg) {a k n q : Nat} (h : q ≠ a) : aR (nO g a k n) q = aR g q := by funext i; simp [aR, nO, h]
theorem aL_nO_ne (g : Sg) {a k n q : Nat} (h : q ≠ a) : aL (nO g a k n) q = aL g q := by funext i; simp [aL, nO, h]
theorem fI_wI (g : Sg) (f a : Nat) (v : Int32) : fI (wI g f a v) f = fun q => if q = a then v else fI g f q := by
  funext q; simp [fI, wI]
theorem fI_wI_ne (g : Sg) {f f' : Nat} (a : Nat) (v : Int32) (h : f' ≠ f) : fI (wI g f a v) f' = fI g f' := by
  funext q; simp [fI, wI, h]
theorem aR9 (g : Sg) (a i : Nat) (v : Option Nat) : aR (sR g a i v) a = fun j => if j = i then v else aR g a j := by
  funext j; simp [aR, sR]
theorem aR9n (g : Sg) {a b : Nat} (i : Nat) (v : Option Nat) (h : b ≠ a) : aR (sR g a i v) b = aR g b := by
  funext j; simp [aR, sR, h]
theorem aR_cR (g : Sg) (a : Nat) (h : Nat → Option Nat) : aR (cR g a h) a = h := by funext j; simp [aR, cR]
theorem aR_cR_ne (g : Sg) {a b : Nat} (h : Nat → Option Nat) (e : b ≠ a) : aR (cR g a h) b = aR g b := by funext j; simp [aR, cR, e]
def newc (cap : Nat) : Nat := if cap = 0 then 10 else cap + max 1 (cap / 2)
def co (cap n : Nat) : Nat := if n = cap then newc cap else 0
def cp2 (cap n : Nat) : Nat := if n = cap then newc cap else cap
def alP (z a d cap n d2 : Nat) (f2 : Nat → Nat) (g g2 : Sg) : Prop := (∀ q, hT g q ≠ none → hT g2 q = hT g q) ∧ (∀ f q, hT g q ≠ none → f ≠ 1 → (f = 3 → q ≠ a) → fI g2 f q = fI g f q) ∧ (fI g2 3 a = nI (n + 1)) ∧ (∀ f q, hT g q ≠ none → (f = 2 → q ≠ a) → fR g2 f q = fR g f q) ∧ (fR g2 2 a = some d2) ∧ (∀ q, hT g q ≠ none → aI g2 q = aI g q) ∧ (∀ q, hT g q ≠ none → aL g2 q = aL g q) ∧ (∀ q, hT g q ≠ none → (0 < cap → q ≠ d) → aR g2 q = aR g q) ∧ (rowD z (hT g2) (aR g2) d2 (cp2 cap n) (n + 1) f2) ∧ ((d2 = d ∧ 0 < cap) ∨ hT g d2 = none)
theorem alP.t {z a d cap n d2 : Nat} {f2 : Nat → Nat} {g g2 : Sg} (h : alP z a d cap n d2 f2 g g2) : ∀ q, hT g q ≠ none → hT g2 q = hT g q := h.1
theorem alP.i {z a d cap n d2 : Nat} {f2 : Nat → Nat} {g g2 : Sg} (h : alP z a d cap n d2 f2 g g2) : ∀ f q, hT g q ≠ none → f ≠ 1 → (f = 3 → q ≠ a) → fI g2 f q = fI g f q := h.2.1
theorem alP.n {z a d cap n d2 : Nat} {f2 : Nat → Nat} {g g2 : Sg} (h : alP z a d cap n d2 f2 g g2) : fI g2 3 a = nI (n + 1) := h.2.2.1
theorem alP.r {z a d cap n d2 : Nat} {f2 : Nat → Nat} {g g2 : Sg} (h : alP z a d cap n d2 f2 g g2) : ∀ f q, hT g q ≠ none → (f = 2 → q ≠ a) → fR g2 f q = fR g f q := h.2.2.2.1
theorem alP.d {z a d cap n d2 : Nat} {f2 : Nat → Nat} {g g2 : Sg} (h : alP z a d cap n d2 f2 g g2) : fR g2 2 a = some d2 := h.2.2.2.2.1
theorem alP.ai {z a d cap n d2 : Nat} {f2 : Nat → Nat} {g g2 : Sg} (h : alP z a d cap n d2 f2 g g2) : ∀ q, hT g q ≠ none → aI g2 q = aI g q := h.2.2.2.2.2.1
theorem alP.al {z a d cap n d2 : Nat} {f2 : Nat → Nat} {g g2 : Sg} (h : alP z a d cap n d2 f2 g g2) : ∀ q, hT g q ≠ none → aL g2 q = aL g q := h.2.2.2.2.2.2.1
theorem alP.ar {z a d cap n d2 : Nat} {f2 : Nat → Nat} {g g2 : Sg} (h : alP z a d cap n d2 f2 g g2) : ∀ q, hT g q ≠ none → (0 < cap → q ≠ d) → aR g2 q = aR g q := h.2.2.2.2.2.2.2.1
theorem alP.row {z a d cap n d2 : Nat} {f2 : Nat → Nat} {g g2 : Sg} (h : alP z a d cap n d2 f2 g g2) : rowD z (hT g2) (aR g2) d2 (cp2 cap n) (n + 1) f2 := h.2.2.2.2.2.2.2.2.1
theorem alP.dn {z a d cap n d2 : Nat} {f2 : Nat → Nat} {g g2 : Sg} (h : alP z a d cap n d2 f2 g g2) : (d2 = d ∧ 0 < cap) ∨ hT g d2 = none := h.2.2.2.2.2.2.2.2.2
theorem alP.mk {z a d cap n d2 : Nat} {f2 : Nat → Nat} {g g2 : Sg} (h0 : ∀ q, hT g q ≠ none → hT g2 q = hT g q) (h1 : ∀ f q, hT g q ≠ none → f ≠ 1 → (f = 3 → q ≠ a) → fI g2 f q = fI g f q) (h2 : fI g2 3 a = nI (n + 1)) (h3 : ∀ f q, hT g q ≠ none → (f = 2 → q ≠ a) → fR g2 f q = fR g f q) (h4 : fR g2 2 a = some d2) (h5 : ∀ q, hT g q ≠ none → aI g2 q = aI g q) (h6 : ∀ q, hT g q ≠ none → aL g2 q = aL g q) (h7 : ∀ q, hT g q ≠ none → (0 < cap → q ≠ d) → aR g2 q = aR g q) (h8 : rowD z (hT g2) (aR g2) d2 (cp2 cap n) (n + 1) f2) (h9 : (d2 = d ∧ 0 < cap) ∨ hT g d2 = none) : alP z a d cap n d2 f2 g g2 := ⟨h0, h1, h2, h3, h4, h5, h6, h7, h8, h9⟩
theorem t_alAdd {a d cap n x : Nat} {f f2 : Nat → Nat} (h1 : hT g a = some (0, 3)) (h2 : fI g 3 a = nI n) (h3 : fR g 2 a = some d) (hr : rowD z (hT g) (aR g) d cap n f) (hn : n < 8192) (hx : isK g x [2, 3]) (hf : ∀ i, i < n → isK g (f i) [2, 3]) (hf2 : ∀ i, i < n → f2 i = f i) (hfn : f2 n = x) (hmc : 1 ≤ mc) (hms : co cap n ≤ ms) {post : Int32 → Sg → Prop}
    (k : ∀ d2 g2, alP z a d cap n d2 f2 g g2 → post 1 g2) : w_AL_add1 z mi mc ms post g a (some x) := by
  obtain ⟨r1, r2, r4, r3⟩ := hr
  have hcap : cap ≤ 13000 := by omega
  have hane : hT g a ≠ none := by rw [h1]; exact fun h => nomatch h
  unfold w_AL_add1
  (refine ⟨?_, ?_⟩; (focus (first | exact hasI_of (by assumption) (by decide) | exact hasR_of (by assumption) (by decide))); rintro _ rfl)
  (refine ⟨?_, ?_⟩; (focus (first | exact hasI_of (by assumption) (by decide) | exact hasR_of (by assumption) (by decide))); rintro _ rfl)
  refine ⟨hasR_of (by assumption) (by decide), ?_⟩
  rintro _ rfl
  rw [show fR (wI g 1 a (fI g 1 a + 1)) 2 a = some d from h3]
  refine ⟨hasI_of (by assumption) (by decide), ?_⟩
  rintro _ rfl
  rw [show fI (wI g 1 a (fI g 1 a + 1)) 3 a = nI n by rw [fI_wI_ne _ _ _ (by decide)]; exact h2]
  refine ⟨⟨_, _, by assumption, by decide⟩, 1, co cap n, by omega, by omega, ?_⟩
  unfold w_AL_add3
  refine ⟨_, rfl, ?_⟩
  refine ⟨cap, ?_, ?_⟩
  · rcases r3 with ⟨q1, q2⟩ | ⟨q1, q2, -⟩
    · exact Or.inr ⟨q2, q1⟩
    · exact Or.inl ⟨106, q2, by decide, by decide⟩
  rintro _ rfl
  rw [eI (by omega) (by omega)]
  refine ⟨fun hnc => ?_, fun hnc => ?_⟩
  · rcases r3 with ⟨q1, q2⟩ | ⟨q1, q2, q3⟩
    · omega
    have hdne : hT g d ≠ none := by rw [q2]; exact fun h => nomatch h
    have had : a ≠ d := fun e => by rw [e, q2] at h1; cases h1
    unfold w_AL_add3_11
    refine ⟨_, rfl, ?_⟩
    refine ⟨_, rfl, ?_⟩
    refine ⟨n, ⟨_, q2, rfl, by omega, by omega⟩, hx, ?_⟩
    rintro _ rfl
    refine ⟨hasI_of (by assumption) (by decide), ?_⟩
    rintro _ rfl
    refine k d _ (alP.mk (fun _ _ => rfl) (fun f q _ hf1 hf3 => ?_) ?_ (fun _ _ _ _ => rfl) h3 (fun _ _ => rfl) (fun _ _ => rfl) (fun q _ hq => ?_) ?_ (Or.inl ⟨rfl, by omega⟩))
    · by_cases hf : f = 3
      · subst hf
        rw [fI_wI]; simp only [hf3 rfl, if_false]
        simp only [u_hT_wI, u_hT_wR, u_hT_sI, u_hT_sR, u_hT_sL, u_hT_cI, u_hT_cR, u_fI_wR, u_fI_sI, u_fI_sR, u_fI_sL, u_fI_cI, u_fI_cR, u_fR_wI, u_fR_sI, u_fR_sR, u_fR_sL, u_fR_cI, u_fR_cR, u_aI_wI, u_aI_wR, u_aI_sR, u_aI_sL, u_aI_cR, u_aR_wI, u_aR_wR, u_aR_sI, u_aR_sL, u_aR_cI, u_aL_wI, u_aL_wR, u_aL_sI, u_aL_sR, u_aL_cI, u_aL_cR]
        rw [fI_wI_ne _ _ _ (by decide)]
      · rw [fI_wI_ne _ _ _ hf]
        simp only [u_hT_wI, u_hT_wR, u_hT_sI, u_hT_sR, u_hT_sL, u_hT_cI, u_hT_cR, u_fI_wR, u_fI_sI, u_fI_sR, u_fI_sL, u_fI_cI, u_fI_cR, u_fR_wI, u_fR_sI, u_fR_sR, u_fR_sL, u_fR_cI, u_fR_cR, u_aI_wI, u_aI_wR, u_aI_sR, u_aI_sL, u_aI_cR, u_aR_wI, u_aR_wR, u_aR_sI, u_aR_sL, u_aR_cI, u_aL_wI, u_aL_wR, u_aL_sI, u_aL_sR, u_aL_cI, u_aL_cR]
        rw [fI_wI_ne _ _ _ hf1]
    · rw [fI_wI]; simp only [if_true]; exact nI_1 n
    · simp only [u_hT_wI, u_hT_wR, u_hT_sI, u_hT_sR, u_hT_sL, u_hT_cI, u_hT_cR, u_fI_wR, u_fI_sI, u_fI_sR, u_fI_sL, u_fI_cI, u_fI_cR, u_fR_wI, u_fR_sI, u_fR_sR, u_fR_sL, u_fR_cI, u_fR_cR, u_aI_wI, u_aI_wR, u_aI_sR, u_aI_sL, u_aI_cR, u_aR_wI, u_aR_wR, u_aR_sI, u_aR_sL, u_aR_cI, u_aL_wI, u_aL_wR, u_aL_sI, u_aL_sR, u_aL_cI, u_aL_cR]
      rw [aR9n _ _ _ (hq (by omega))]; rfl
    · have e1 : cp2 cap n = cap := by simp [cp2, hnc]
      rw [e1]
      refine ⟨by omega, by omega, by omega, Or.inr ⟨q1, q2, fun i hi => ?_⟩⟩
      simp only [u_hT_wI, u_hT_wR, u_hT_sI, u_hT_sR, u_hT_sL, u_hT_cI, u_hT_cR, u_fI_wR, u_fI_sI, u_fI_sR, u_fI_sL, u_fI_cI, u_fI_cR, u_fR_wI, u_fR_sI, u_fR_sR, u_fR_sL, u_fR_cI, u_fR_cR, u_aI_wI, u_aI_wR, u_aI_sR, u_aI_sL, u_aI_cR, u_aR_wI, u_aR_wR, u_aR_sI, u_aR_sL, u_aR_cI, u_aL_wI, u_aL_wR, u_aL_sI, u_aL_sR, u_aL_cI, u_aL_cR]
      rw [aR9]
      by_cases hin : i = n
      · simp [hin, hfn]
      · simp only [hin, if_false]
        rw [hf2 i (by omega)]
        exact q3 i (by omega)
  · subst hnc
    have eco : co n n = newc n := by simp [co]
    have ecp : cp2 n n = newc n := by simp [cp2]
    rw [eco] at hms ⊢
    refine ⟨⟨_, _, by assumption, by decide⟩, 1, newc n, by omega, by omega, ?_⟩
    unfold w_AL_grow0
    refine ⟨hasI_of (by assumption) (by decide), ?_⟩
    rintro _ rfl
    rw [show fI (wI g 1 a (fI g 1 a + 1)) 3 a = nI n by rw [fI_wI_ne _ _ _ (by decide)]; exact h2]
    refine ⟨⟨_, _, by assumption, by decide⟩, 1, newc n, by omega, by omega, ?_⟩
    unfold w_AL_grow1
    refine ⟨hasR_of (by assumption) (by decide), ?_⟩
    rintro _ rfl
    rw [show fR (wI g 1 a (fI g 1 a + 1)) 2 a = some d from h3]
    refine ⟨_, rfl, ?_⟩
    refine ⟨n, ?_, ?_⟩
    · rcases r3 with ⟨q1, q2⟩ | ⟨q1, q2, -⟩
      · exact Or.inr ⟨q2, q1⟩
      · exact Or.inl ⟨106, q2, by decide, by decide⟩
    rintro _ rfl
    have h0n : (0 : Int32) < nI n ↔ 0 < n := tI (a := 0) (by omega) (by omega)
    rw [h0n]
    refine ⟨fun hpos => ?_, fun hpos => ?_⟩
    · rcases r3 with ⟨q1, q2⟩ | ⟨q1, q2, q3⟩
      · omega
      have hdne : hT g d ≠ none := by rw [q2]; exact fun h => nomatch h
      have enc : newc n = n + max 1 (n / 2) := by simp [newc, Nat.ne_of_gt hpos]
      unfold w_AL_grow1_20
      refine ⟨0, 0, by omega, by omega, ?_⟩
      unfold w_AS_newLength
      refine ⟨0, 0, by omega, by omega, ?_⟩
      have e1 : nI n + 1 - nI n = nI 1 := by rw [nI_1, pk_sub (by omega)]; congr 1; omega
      have e2 : nI n >>> ((1 : Int32) &&& 31) = nI (n / 2) := pk_shrN (by omega) _ 1 (by decide)
      rw [e1, e2]
      refine t_max (by omega) (by omega) ?_
      rw [nI_add, ← enc]
      have hnew : newc n ≤ 2000000 := by omega
      refine ⟨fun h => absurd ((lI (b := 0) hnew (by omega)).mp h) (by omega), fun _ => ⟨fun h => ?_, fun _ => ?_⟩⟩
      · have e3 : (2147483639 : Int32) = nI 2147483639 := by decide
        rw [e3, nI_ltI (by omega) (by omega)] at h
        omega
      refine ⟨hasR_of (by assumption) (by decide), ?_⟩
      rintro _ rfl
      rw [show fR (wI g 1 a (fI g 1 a + 1)) 2 a = some d from h3]
      refine ⟨1, newc n, by omega, by omega, ?_⟩
      unfold w_AR_copyO2
      refine ⟨_, rfl, ?_⟩
      refine ⟨⟨_, q2⟩, 1, newc n, by omega, by omega, ?_⟩
      unfold w_AR_copyO3
      refine ⟨fun h => h rfl, fun _ => ⟨newc n, rfl, by omega, by omega, by omega, ?_⟩⟩
      intro d2 hd2
      rintro _ rfl
      have hd2' : hT g d2 = none := hd2
      have hda : d ≠ d2 := fun e => hdne (by rw [e]; exact hd2')
      have haa : a ≠ d2 := fun e => hane (by rw [e]; exact hd2')
      have live : ∀ q, hT g q ≠ none → q ≠ d2 := fun q hq e => hq (by rw [e]; exact hd2')
      have hTd : hT (nO (wI g 1 a (fI g 1 a + 1)) d2 106 (newc n)) d = some (106, n) := by rw [hT9n _ hda]; exact q2
      have hTa : hT (nO (wI g 1 a (fI g 1 a + 1)) d2 106 (newc n)) a = some (0, 3) := by rw [hT9n _ haa]; exact h1
      unfold w_AR_copyO3_24
      refine ⟨_, rfl, ?_⟩
      refine ⟨n, Or.inl ⟨106, hTd, by decide, by decide⟩, ?_⟩
      rintro _ rfl
      refine ⟨0, 0, by omega, by omega, ?_⟩
      unfold w_MA_min
      rw [tI (by omega) (by omega)]
      refine ⟨fun h => absurd h (by omega), fun _ => ?_⟩
      refine ⟨_, rfl, ?_⟩
      have isl : ∀ y, isK g y [2, 3] → isK (nO (wI g 1 a (fI g 1 a + 1)) d2 106 (newc n)) y [2, 3] := fun y ⟨k1, k2, k3, k4⟩ => ⟨k1, k2, by
        rw [hT9n _ (live y (by rw [k3]; exact fun h => nomatch h))]; exact k3, k4⟩
      refine ⟨0, 0, n, ⟨n, newc n, hTd, hT9 _ _ _ _, rfl, rfl, rfl, by omega, by omega, by omega, by omega⟩, fun i hi y hy => ?_, ?_⟩
      · rw [aR_nO_ne _ hda, Nat.zero_add] at hy
        have := q3 i hi
        rw [show aR (wI g 1 a (fI g 1 a + 1)) d i = aR g d i from rfl, this] at hy
        cases hy
        exact isl _ (hf i hi)
      rintro _ rfl
      refine ⟨hasR_of hTa (by decide), ?_⟩
      rintro _ rfl
      unfold w_AL_add3_11
      refine ⟨_, rfl, ?_⟩
      refine ⟨_, rfl, ?_⟩
      refine ⟨n, ⟨newc n, hT9 _ _ _ _, rfl, by omega, by omega⟩, isl _ hx, ?_⟩
      rintro _ rfl
      refine ⟨hasI_of hTa (by decide), ?_⟩
      rintro _ rfl
      refine k d2 _ (alP.mk (fun q hq => ?_) (fun f q hq hf1 hf3 => ?_) ?_ (fun f q hq hf2' => ?_) ?_ (fun q hq => ?_) (fun q hq => ?_) (fun q hq _ => ?_) ?_ (Or.inr hd2'))
      · exact hT9n _ (live q hq)
      · by_cases hf : f = 3
        · subst hf
          rw [fI_wI]; simp only [hf3 rfl, if_false]
          simp only [u_hT_wI, u_hT_wR, u_hT_sI, u_hT_sR, u_hT_sL, u_hT_cI, u_hT_cR, u_fI_wR, u_fI_sI, u_fI_sR, u_fI_sL, u_fI_cI, u_fI_cR, u_fR_wI, u_fR_sI, u_fR_sR, u_fR_sL, u_fR_cI, u_fR_cR, u_aI_wI, u_aI_wR, u_aI_sR, u_aI_sL, u_aI_cR, u_aR_wI, u_aR_wR, u_aR_sI, u_aR_sL, u_aR_cI, u_aL_wI, u_aL_wR, u_aL_sI, u_aL_sR, u_aL_cI, u_aL_cR]
          rw [fI_nO_ne _ (live q hq), fI_wI_ne _ _ _ (by decide)]
        · rw [fI_wI_ne _ _ _ hf]
          simp only [u_hT_wI, u_hT_wR, u_hT_sI, u_hT_sR, u_hT_sL, u_hT_cI, u_hT_cR, u_fI_wR, u_fI_sI, u_fI_sR, u_fI_sL, u_fI_cI, u_fI_cR, u_fR_wI, u_fR_sI, u_fR_sR, u_fR_sL, u_fR_cI, u_fR_cR, u_aI_wI, u_aI_wR, u_aI_sR, u_aI_sL, u_aI_cR, u_aR_wI, u_aR_wR, u_aR_sI, u_aR_sL, u_aR_cI, u_aL_wI, u_aL_wR, u_aL_sI, u_aL_sR, u_aL_cI, u_aL_cR]
          rw [fI_nO_ne _ (live q hq), fI_wI_ne _ _ _ hf1]
      · rw [fI_wI]; simp only [if_true]; exact nI_1 n
      · simp only [u_hT_wI, u_hT_wR, u_hT_sI, u_hT_sR, u_hT_sL, u_hT_cI, u_hT_cR, u_fI_wR, u_fI_sI, u_fI_sR, u_fI_sL, u_fI_cI, u_fI_cR, u_fR_wI, u_fR_sI, u_fR_sR, u_fR_sL, u_fR_cI, u_fR_cR, u_aI_wI, u_aI_wR, u_aI_sR, u_aI_sL, u_aI_cR, u_aR_wI, u_aR_wR, u_aR_sI, u_aR_sL, u_aR_cI, u_aL_wI, u_aL_wR, u_aL_sI, u_aL_sR, u_aL_cI, u_aL_cR]
        by_cases hf : f = 2
        · subst hf
          rw [fR_wR]; simp only [hf2' rfl, if_false]
          simp only [u_hT_wI, u_hT_wR, u_hT_sI, u_hT_sR, u_hT_sL, u_hT_cI, u_hT_cR, u_fI_wR, u_fI_sI, u_fI_sR, u_fI_sL, u_fI_cI, u_fI_cR, u_fR_wI, u_fR_sI, u_fR_sR, u_fR_sL, u_fR_cI, u_fR_cR, u_aI_wI, u_aI_wR, u_aI_sR, u_aI_sL, u_aI_cR, u_aR_wI, u_aR_wR, u_aR_sI, u_aR_sL, u_aR_cI, u_aL_wI, u_aL_wR, u_aL_sI, u_aL_sR, u_aL_cI, u_aL_cR]
          rw [fR_nO_ne _ (live q hq)]; rfl
        · rw [fR_wR_ne _ _ _ hf]
          simp only [u_hT_wI, u_hT_wR, u_hT_sI, u_hT_sR, u_hT_sL, u_hT_cI, u_hT_cR, u_fI_wR, u_fI_sI, u_fI_sR, u_fI_sL, u_fI_cI, u_fI_cR, u_fR_wI, u_fR_sI, u_fR_sR, u_fR_sL, u_fR_cI, u_fR_cR, u_aI_wI, u_aI_wR, u_aI_sR, u_aI_sL, u_aI_cR, u_aR_wI, u_aR_wR, u_aR_sI, u_aR_sL, u_aR_cI, u_aL_wI, u_aL_wR, u_aL_sI, u_aL_sR, u_aL_cI, u_aL_cR]
          rw [fR_nO_ne _ (live q hq)]; rfl
      · simp only [u_hT_wI, u_hT_wR, u_hT_sI, u_hT_sR, u_hT_sL, u_hT_cI, u_hT_cR, u_fI_wR, u_fI_sI, u_fI_sR, u_fI_sL, u_fI_cI, u_fI_cR, u_fR_wI, u_fR_sI, u_fR_sR, u_fR_sL, u_fR_cI, u_fR_cR, u_aI_wI, u_aI_wR, u_aI_sR, u_aI_sL, u_aI_cR, u_aR_wI, u_aR_wR, u_aR_sI, u_aR_sL, u_aR_cI, u_aL_wI, u_aL_wR, u_aL_sI, u_aL_sR, u_aL_cI, u_aL_cR]
        rw [fR_wR]; simp
      · simp only [u_hT_wI, u_hT_wR, u_hT_sI, u_hT_sR, u_hT_sL, u_hT_cI, u_hT_cR, u_fI_wR, u_fI_sI, u_fI_sR, u_fI_sL, u_fI_cI, u_fI_cR, u_fR_wI, u_fR_sI, u_fR_sR, u_fR_sL, u_fR_cI, u_fR_cR, u_aI_wI, u_aI_wR, u_aI_sR, u_aI_sL, u_aI_cR, u_aR_wI, u_aR_wR, u_aR_sI, u_aR_sL, u_aR_cI, u_aL_wI, u_aL_wR, u_aL_sI, u_aL_sR, u_aL_cI, u_aL_cR]
        rw [aI_nO_ne _ (live q hq)]; rfl
      · simp only [u_hT_wI, u_hT_wR, u_hT_sI, u_hT_sR, u_hT_sL, u_hT_cI, u_hT_cR, u_fI_wR, u_fI_sI, u_fI_sR, u_fI_sL, u_fI_cI, u_fI_cR, u_fR_wI, u_fR_sI, u_fR_sR, u_fR_sL, u_fR_cI, u_fR_cR, u_aI_wI, u_aI_wR, u_aI_sR, u_aI_sL, u_aI_cR, u_aR_wI, u_aR_wR, u_aR_sI, u_aR_sL, u_aR_cI, u_aL_wI, u_aL_wR, u_aL_sI, u_aL_sR, u_aL_cI, u_aL_cR]
        rw [aL_nO_ne _ (live q hq)]; rfl
      · simp only [u_hT_wI, u_hT_wR, u_hT_sI, u_hT_sR, u_hT_sL, u_hT_cI, u_hT_cR, u_fI_wR, u_fI_sI, u_fI_sR, u_fI_sL, u_fI_cI, u_fI_cR, u_fR_wI, u_fR_sI, u_fR_sR, u_fR_sL, u_fR_cI, u_fR_cR, u_aI_wI, u_aI_wR, u_aI_sR, u_aI_sL, u_aI_cR, u_aR_wI, u_aR_wR, u_aR_sI, u_aR_sL, u_aR_cI, u_aL_wI, u_aL_wR, u_aL_sI, u_aL_sR, u_aL_cI, u_aL_cR]
        rw [aR9n _ _ _ (live q hq)]
        simp only [u_hT_wI, u_hT_wR, u_hT_sI, u_hT_sR, u_hT_sL, u_hT_cI, u_hT_cR, u_fI_wR, u_fI_sI, u_fI_sR, u_fI_sL, u_fI_cI, u_fI_cR, u_fR_wI, u_fR_sI, u_fR_sR, u_fR_sL, u_fR_cI, u_fR_cR, u_aI_wI, u_aI_wR, u_aI_sR, u_aI_sL, u_aI_cR, u_aR_wI, u_aR_wR, u_aR_sI, u_aR_sL, u_aR_cI, u_aL_wI, u_aL_wR, u_aL_sI, u_aL_sR, u_aL_cI, u_aL_cR]
        rw [aR_cR_ne _ _ (live q hq), aR_nO_ne _ (live q hq)]; rfl
      · rw [ecp]
        refine ⟨by omega, by omega, by omega, Or.inr ⟨by omega, hT9 _ _ _ _, fun i hi => ?_⟩⟩
        simp only [u_hT_wI, u_hT_wR, u_hT_sI, u_hT_sR, u_hT_sL, u_hT_cI, u_hT_cR, u_fI_wR, u_fI_sI, u_fI_sR, u_fI_sL, u_fI_cI, u_fI_cR, u_fR_wI, u_fR_sI, u_fR_sR, u_fR_sL, u_fR_cI, u_fR_cR, u_aI_wI, u_aI_wR, u_aI_sR, u_aI_sL, u_aI_cR, u_aR_wI, u_aR_wR, u_aR_sI, u_aR_sL, u_aR_cI, u_aL_wI, u_aL_wR, u_aL_sI, u_aL_sR, u_aL_cI, u_aL_cR]
        rw [aR9]
        by_cases hin : i = n
        · simp [hin, hfn]
        · simp only [hin, if_false]
          simp only [u_hT_wI, u_hT_wR, u_hT_sI, u_hT_sR, u_hT_sL, u_hT_cI, u_hT_cR, u_fI_wR, u_fI_sI, u_fI_sR, u_fI_sL, u_fI_cI, u_fI_cR, u_fR_wI, u_fR_sI, u_fR_sR, u_fR_sL, u_fR_cI, u_fR_cR, u_aI_wI, u_aI_wR, u_aI_sR, u_aI_sL, u_aI_cR, u_aR_wI, u_aR_wR, u_aR_sI, u_aR_sL, u_aR_cI, u_aL_wI, u_aL_wR, u_aL_sI, u_aL_sR, u_aL_cI, u_aL_cR]
          rw [aR_cR, hf2 i (by omega)]
          have hin' : i < n := by omega
          simp only [va_cpy, Nat.zero_le, hin', true_and, if_true, Nat.zero_add, Nat.sub_zero]
          rw [aR_nO_ne _ hda]
          exact q3 i hin'
    · have hn0 : n = 0 := by omega
      subst hn0
      have q2 : d = z := by
        rcases r3 with h | h
        · exact h.2
        · omega
      subst q2
      have enc : newc 0 = 10 := rfl
      rw [enc] at hms ⊢
      refine ⟨hasR_of (by assumption) (by decide), ?_⟩
      rintro _ rfl
      refine ⟨fun _ => ?_, fun h => absurd rfl h⟩
      refine ⟨0, 0, by omega, by omega, ?_⟩
      rw [nI_1]
      refine t_max (a := 10) (b := 0 + 1) (by omega) (by omega) ?_
      refine ⟨10, rfl, by omega, by omega, by omega, ?_⟩
      intro d2 hd2
      rintro _ rfl
      have hd2' : hT g d2 = none := hd2
      have haa : a ≠ d2 := fun e => hane (by rw [e]; exact hd2')
      have live : ∀ q, hT g q ≠ none → q ≠ d2 := fun q hq e => hq (by rw [e]; exact hd2')
      have hTa : hT (nO (wI g 1 a (fI g 1 a + 1)) d2 106 10) a = some (0, 3) := by rw [hT9n _ haa]; exact h1
      have isl : ∀ y, isK g y [2, 3] → isK (nO (wI g 1 a (fI g 1 a + 1)) d2 106 10) y [2, 3] := fun y ⟨k1, k2, k3, k4⟩ => ⟨k1, k2, by
        rw [hT9n _ (live y (by rw [k3]; exact fun h => nomatch h))]; exact k3, k4⟩
      refine ⟨hasR_of hTa (by decide), ?_⟩
      rintro _ rfl
      unfold w_AL_add3_11
      refine ⟨_, rfl, ?_⟩
      refine ⟨_, rfl, ?_⟩
      refine ⟨0, ⟨10, hT9 _ _ _ _, rfl, by omega, by omega⟩, isl _ hx, ?_⟩
      rintro _ rfl
      refine ⟨hasI_of hTa (by decide), ?_⟩
      rintro _ rfl
      refine k d2 _ (alP.mk (fun q hq => ?_) (fun f q hq hf1 hf3 => ?_) ?_ (fun f q hq hf2' => ?_) ?_ (fun q hq => ?_) (fun q hq => ?_) (fun q hq _ => ?_) ?_ (Or.inr hd2'))
      · exact hT9n _ (live q hq)
      · by_cases hf : f = 3
        · subst hf
          rw [fI_wI]; simp only [hf3 rfl, if_false]
          simp only [u_hT_wI, u_hT_wR, u_hT_sI, u_hT_sR, u_hT_sL, u_hT_cI, u_hT_cR, u_fI_wR, u_fI_sI, u_fI_sR, u_fI_sL, u_fI_cI, u_fI_cR, u_fR_wI, u_fR_sI, u_fR_sR, u_fR_sL, u_fR_cI, u_fR_cR, u_aI_wI, u_aI_wR, u_aI_sR, u_aI_sL, u_aI_cR, u_aR_wI, u_aR_wR, u_aR_sI, u_aR_sL, u_aR_cI, u_aL_wI, u_aL_wR, u_aL_sI, u_aL_sR, u_aL_cI, u_aL_cR]
          rw [fI_nO_ne _ (live q hq), fI_wI_ne _ _ _ (by decide)]
        · rw [fI_wI_ne _ _ _ hf]
          simp only [u_hT_wI, u_hT_wR, u_hT_sI, u_hT_sR, u_hT_sL, u_hT_cI, u_hT_cR, u_fI_wR, u_fI_sI, u_fI_sR, u_fI_sL, u_fI_cI, u_fI_cR, u_fR_wI, u_fR_sI, u_fR_sR, u_fR_sL, u_fR_cI, u_fR_cR, u_aI_wI, u_aI_wR, u_aI_sR, u_aI_sL, u_aI_cR, u_aR_wI, u_aR_wR, u_aR_sI, u_aR_sL, u_aR_cI, u_aL_wI, u_aL_wR, u_aL_sI, u_aL_sR, u_aL_cI, u_aL_cR]
          rw [fI_nO_ne _ (live q hq), fI_wI_ne _ _ _ hf1]
      · rw [fI_wI]; simp only [if_true]; exact nI_1 0
      · simp only [u_hT_wI, u_hT_wR, u_hT_sI, u_hT_sR, u_hT_sL, u_hT_cI, u_hT_cR, u_fI_wR, u_fI_sI, u_fI_sR, u_fI_sL, u_fI_cI, u_fI_cR, u_fR_wI, u_fR_sI, u_fR_sR, u_fR_sL, u_fR_cI, u_fR_cR, u_aI_wI, u_aI_wR, u_aI_sR, u_aI_sL, u_aI_cR, u_aR_wI, u_aR_wR, u_aR_sI, u_aR_sL, u_aR_cI, u_aL_wI, u_aL_wR, u_aL_sI, u_aL_sR, u_aL_cI, u_aL_cR]
        by_cases hf : f = 2
        · subst hf
          rw [fR_wR]; simp only [hf2' rfl, if_false]
          rw [fR_nO_ne _ (live q hq)]; rfl
        · rw [fR_wR_ne _ _ _ hf, fR_nO_ne _ (live q hq)]; rfl
      · simp only [u_hT_wI, u_hT_wR, u_hT_sI, u_hT_sR, u_hT_sL, u_hT_cI, u_hT_cR, u_fI_wR, u_fI_sI, u_fI_sR, u_fI_sL, u_fI_cI, u_fI_cR, u_fR_wI, u_fR_sI, u_fR_sR, u_fR_sL, u_fR_cI, u_fR_cR, u_aI_wI, u_aI_wR, u_aI_sR, u_aI_sL, u_aI_cR, u_aR_wI, u_aR_wR, u_aR_sI, u_aR_sL, u_aR_cI, u_aL_wI, u_aL_wR, u_aL_sI, u_aL_sR, u_aL_cI, u_aL_cR]
        rw [fR_wR]; simp
      · simp only [u_hT_wI, u_hT_wR, u_hT_sI, u_hT_sR, u_hT_sL, u_hT_cI, u_hT_cR, u_fI_wR, u_fI_sI, u_fI_sR, u_fI_sL, u_fI_cI, u_fI_cR, u_fR_wI, u_fR_sI, u_fR_sR, u_fR_sL, u_fR_cI, u_fR_cR, u_aI_wI, u_aI_wR, u_aI_sR, u_aI_sL, u_aI_cR, u_aR_wI, u_aR_wR, u_aR_sI, u_aR_sL, u_aR_cI, u_aL_wI, u_aL_wR, u_aL_sI, u_aL_sR, u_aL_cI, u_aL_cR]
        rw [aI_nO_ne _ (live q hq)]; rfl
      · simp only [u_hT_wI, u_hT_wR, u_hT_sI, u_hT_sR, u_hT_sL, u_hT_cI, u_hT_cR, u_fI_wR, u_fI_sI, u_fI_sR, u_fI_sL, u_fI_cI, u_fI_cR, u_fR_wI, u_fR_sI, u_fR_sR, u_fR_sL, u_fR_cI, u_fR_cR, u_aI_wI, u_aI_wR, u_aI_sR, u_aI_sL, u_aI_cR, u_aR_wI, u_aR_wR, u_aR_sI, u_aR_sL, u_aR_cI, u_aL_wI, u_aL_wR, u_aL_sI, u_aL_sR, u_aL_cI, u_aL_cR]
        rw [aL_nO_ne _ (live q hq)]; rfl
      · simp only [u_hT_wI, u_hT_wR, u_hT_sI, u_hT_sR, u_hT_sL, u_hT_cI, u_hT_cR, u_fI_wR, u_fI_sI, u_fI_sR, u_fI_sL, u_fI_cI, u_fI_cR, u_fR_wI, u_fR_sI, u_fR_sR, u_fR_sL, u_fR_cI, u_fR_cR, u_aI_wI, u_aI_wR, u_aI_sR, u_aI_sL, u_aI_cR, u_aR_wI, u_aR_wR, u_aR_sI, u_aR_sL, u_aR_cI, u_aL_wI, u_aL_wR, u_aL_sI, u_aL_sR, u_aL_cI, u_aL_cR]
        rw [aR9n _ _ _ (live q hq)]
        simp only [u_hT_wI, u_hT_wR, u_hT_sI, u_hT_sR, u_hT_sL, u_hT_cI, u_hT_cR, u_fI_wR, u_fI_sI, u_fI_sR, u_fI_sL, u_fI_cI, u_fI_cR, u_fR_wI, u_fR_sI, u_fR_sR, u_fR_sL, u_fR_cI, u_fR_cR, u_aI_wI, u_aI_wR, u_aI_sR, u_aI_sL, u_aI_cR, u_aR_wI, u_aR_wR, u_aR_sI, u_aR_sL, u_aR_cI, u_aL_wI, u_aL_wR, u_aL_sI, u_aL_sR, u_aL_cI, u_aL_cR]
        rw [aR_nO_ne _ (live q hq)]; rfl
      · have ecp' : cp2 0 0 = 10 := rfl
        rw [ecp']
        refine ⟨by omega, by omega, by omega, Or.inr ⟨by omega, hT9 _ _ _ _, fun i hi => ?_⟩⟩
        simp only [u_hT_wI, u_hT_wR, u_hT_sI, u_hT_sR, u_hT_sL, u_hT_cI, u_hT_cR, u_fI_wR, u_fI_sI, u_fI_sR, u_fI_sL, u_fI_cI, u_fI_cR, u_fR_wI, u_fR_sI, u_fR_sR, u_fR_sL, u_fR_cI, u_fR_cR, u_aI_wI, u_aI_wR, u_aI_sR, u_aI_sL, u_aI_cR, u_aR_wI, u_aR_wR, u_aR_sI, u_aR_sL, u_aR_cI, u_aL_wI, u_aL_wR, u_aL_sI, u_aL_sR, u_aL_cI, u_aL_cR]
        rw [aR9]
        have : i = 0 := by omega
        simp [this, hfn]
end CA1
