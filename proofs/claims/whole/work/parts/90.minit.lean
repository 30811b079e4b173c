section MIN
variable {z mi mc ms : Nat} {g g0 g1 g2 : Sg} {m gr : Nat} {l : List Nat} {f : Nat → Nat}
theorem lv_none (h : lv g0 g) {a : Nat} (ha : hT g a = none) : hT g0 a = none := by
  cases h0 : hT g0 a with
  | none => rfl
  | some y => exact absurd ((h.t a (nn h0)).trans h0) (by rw [ha]; exact fun h => nomatch h)
def GI (m gr : Nat) (l : List Nat) (f : Nat → Nat) (g0 g : Sg) : Prop := (hT g m = some (6, 6)) ∧ (hT g gr = some (5, 22)) ∧ (∀ i ∈ l, hT g (f i) = some (MK i)) ∧ (∀ i ∈ l, i ≤ 50 → fR g i gr = some (f i)) ∧ (∀ i ∈ l, 51 < i → fR g i m = some (f i)) ∧ (∀ i ∈ l, ∀ j ∈ l, f i = f j → i = j) ∧ (∀ i ∈ l, ∀ n, aI g (f i) n = 0) ∧ (lv g0 g) ∧ (hT g0 m = none) ∧ (hT g0 gr = none) ∧ (∀ x, x ≠ 46 → fI g x gr = 0) ∧ (∀ x, fI g x m = 0) ∧ (34 ∈ l → ∀ s, s < 16 → hT g (f 34 + 1 + s) = some (100, 8)) ∧ (34 ∈ l → ∀ s, s < 16 → aR g (f 34) s = some (f 34 + 1 + s)) ∧ (34 ∈ l → ∀ s, s < 16 → ∀ i ∈ l, f 34 + 1 + s ≠ f i) ∧ (∀ i ∈ l, hT g0 (f i) = none) ∧ (34 ∈ l → ∀ s, s < 16 → hT g0 (f 34 + 1 + s) = none)
theorem GI.km {m gr : Nat} {l : List Nat} {f : Nat → Nat} {g0 g : Sg} (h : GI m gr l f g0 g) : hT g m = some (6, 6) := h.1
theorem GI.kg {m gr : Nat} {l : List Nat} {f : Nat → Nat} {g0 g : Sg} (h : GI m gr l f g0 g) : hT g gr = some (5, 22) := h.2.1
theorem GI.a {m gr : Nat} {l : List Nat} {f : Nat → Nat} {g0 g : Sg} (h : GI m gr l f g0 g) : ∀ i ∈ l, hT g (f i) = some (MK i) := h.2.2.1
theorem GI.rg {m gr : Nat} {l : List Nat} {f : Nat → Nat} {g0 g : Sg} (h : GI m gr l f g0 g) : ∀ i ∈ l, i ≤ 50 → fR g i gr = some (f i) := h.2.2.2.1
theorem GI.rm {m gr : Nat} {l : List Nat} {f : Nat → Nat} {g0 g : Sg} (h : GI m gr l f g0 g) : ∀ i ∈ l, 51 < i → fR g i m = some (f i) := h.2.2.2.2.1
theorem GI.inj {m gr : Nat} {l : List Nat} {f : Nat → Nat} {g0 g : Sg} (h : GI m gr l f g0 g) : ∀ i ∈ l, ∀ j ∈ l, f i = f j → i = j := h.2.2.2.2.2.1
theorem GI.zr {m gr : Nat} {l : List Nat} {f : Nat → Nat} {g0 g : Sg} (h : GI m gr l f g0 g) : ∀ i ∈ l, ∀ n, aI g (f i) n = 0 := h.2.2.2.2.2.2.1
theorem GI.v {m gr : Nat} {l : List Nat} {f : Nat → Nat} {g0 g : Sg} (h : GI m gr l f g0 g) : lv g0 g := h.2.2.2.2.2.2.2.1
theorem GI.fm {m gr : Nat} {l : List Nat} {f : Nat → Nat} {g0 g : Sg} (h : GI m gr l f g0 g) : hT g0 m = none := h.2.2.2.2.2.2.2.2.1
theorem GI.fg {m gr : Nat} {l : List Nat} {f : Nat → Nat} {g0 g : Sg} (h : GI m gr l f g0 g) : hT g0 gr = none := h.2.2.2.2.2.2.2.2.2.1
theorem GI.i {m gr : Nat} {l : List Nat} {f : Nat → Nat} {g0 g : Sg} (h : GI m gr l f g0 g) : ∀ x, x ≠ 46 → fI g x gr = 0 := h.2.2.2.2.2.2.2.2.2.2.1
theorem GI.im {m gr : Nat} {l : List Nat} {f : Nat → Nat} {g0 g : Sg} (h : GI m gr l f g0 g) : ∀ x, fI g x m = 0 := h.2.2.2.2.2.2.2.2.2.2.2.1
theorem GI.wk {m gr : Nat} {l : List Nat} {f : Nat → Nat} {g0 g : Sg} (h : GI m gr l f g0 g) : 34 ∈ l → ∀ s, s < 16 → hT g (f 34 + 1 + s) = some (100, 8) := h.2.2.2.2.2.2.2.2.2.2.2.2.1
theorem GI.wr {m gr : Nat} {l : List Nat} {f : Nat → Nat} {g0 g : Sg} (h : GI m gr l f g0 g) : 34 ∈ l → ∀ s, s < 16 → aR g (f 34) s = some (f 34 + 1 + s) := h.2.2.2.2.2.2.2.2.2.2.2.2.2.1
theorem GI.wf {m gr : Nat} {l : List Nat} {f : Nat → Nat} {g0 g : Sg} (h : GI m gr l f g0 g) : 34 ∈ l → ∀ s, s < 16 → ∀ i ∈ l, f 34 + 1 + s ≠ f i := h.2.2.2.2.2.2.2.2.2.2.2.2.2.2.1
theorem GI.fa {m gr : Nat} {l : List Nat} {f : Nat → Nat} {g0 g : Sg} (h : GI m gr l f g0 g) : ∀ i ∈ l, hT g0 (f i) = none := h.2.2.2.2.2.2.2.2.2.2.2.2.2.2.2.1
theorem GI.fw {m gr : Nat} {l : List Nat} {f : Nat → Nat} {g0 g : Sg} (h : GI m gr l f g0 g) : 34 ∈ l → ∀ s, s < 16 → hT g0 (f 34 + 1 + s) = none := h.2.2.2.2.2.2.2.2.2.2.2.2.2.2.2.2
theorem GI.mk {m gr : Nat} {l : List Nat} {f : Nat → Nat} {g0 g : Sg} (h0 : hT g m = some (6, 6)) (h1 : hT g gr = some (5, 22)) (h2 : ∀ i ∈ l, hT g (f i) = some (MK i)) (h3 : ∀ i ∈ l, i ≤ 50 → fR g i gr = some (f i)) (h4 : ∀ i ∈ l, 51 < i → fR g i m = some (f i)) (h5 : ∀ i ∈ l, ∀ j ∈ l, f i = f j → i = j) (h6 : ∀ i ∈ l, ∀ n, aI g (f i) n = 0) (h7 : lv g0 g) (h8 : hT g0 m = none) (h9 : hT g0 gr = none) (h10 : ∀ x, x ≠ 46 → fI g x gr = 0) (h11 : ∀ x, fI g x m = 0) (h12 : 34 ∈ l → ∀ s, s < 16 → hT g (f 34 + 1 + s) = some (100, 8)) (h13 : 34 ∈ l → ∀ s, s < 16 → aR g (f 34) s = some (f 34 + 1 + s)) (h14 : 34 ∈ l → ∀ s, s < 16 → ∀ i ∈ l, f 34 + 1 + s ≠ f i) (h15 : ∀ i ∈ l, hT g0 (f i) = none) (h16 : 34 ∈ l → ∀ s, s < 16 → hT g0 (f 34 + 1 + s) = none) : GI m gr l f g0 g := ⟨h0, h1, h2, h3, h4, h5, h6, h7, h8, h9, h10, h11, h12, h13, h14, h15, h16⟩
theorem GI.mg (h : GI m gr l f g0 g) : m ≠ gr := fun e => by
  have h1 := h.km
  rw [e, h.kg] at h1
  cases h1
theorem nO_aI (g : Sg) {a k n : Nat} (j : Nat) : aI (nO g a k n) a j = 0 := by simp [aI, nO]
theorem GI.new0 (h : GI m gr l f g0 g) (i0 : Nat) (h0 : i0 ∉ l) (h34 : i0 ≠ 34) {a k n : Nat} (ha : hT g a = none) (hk : MK i0 = (k, n)) {ow : Nat} (how : (ow = gr ∧ i0 ≤ 50) ∨ (ow = m ∧ 51 < i0)) : GI m gr (i0 :: l) (ug f i0 a) g0 (wR (nO g a k n) i0 ow (some a)) := by
  have na : ∀ q, hT g q ≠ none → q ≠ a := lv_ne ha
  have nm := na m (nn h.km)
  have ng := na gr (nn h.kg)
  have nf : ∀ i ∈ l, f i ≠ a := fun i hi => na _ (nn (h.a i hi))
  have ne0 : ∀ i ∈ l, i ≠ i0 := fun i hi e => h0 (e ▸ hi)
  have ha0 := lv_none h.v ha
  have how0 : hT g0 ow = none := by rcases how with ⟨rfl, -⟩ | ⟨rfl, -⟩; exact h.fg; exact h.fm
  have l34 : 34 ∈ i0 :: l → 34 ∈ l := fun hm => by
    rcases List.mem_cons.mp hm with e | e
    · exact absurd e.symm h34
    · exact e
  have f34 : ug f i0 a 34 = f 34 := ug_ne (fun e => h34 e.symm)
  have mgn := h.mg
  refine GI.mk (by show hT (nO g a k n) m = _; rw [hT9n _ nm]; exact h.km) (by show hT (nO g a k n) gr = _; rw [hT9n _ ng]; exact h.kg) (fun i hi => ?_) (fun i hi hl => ?_) (fun i hi hl => ?_) (fun i hi j hj e => ?_) (fun i hi x => ?_) ((h.v.nO ha0).wR how0) h.fm h.fg (fun x hx => ?_) (fun x => ?_) (fun hm s hs => ?_) (fun hm s hs => ?_) (fun hm s hs i hi => ?_) (fun i hi => ?_) (fun hm s hs => by rw [f34]; exact h.fw (l34 hm) s hs)
  · show hT (nO g a k n) _ = _
    rcases List.mem_cons.mp hi with rfl | hi'
    · rw [ug_at, hT9, hk]
    · rw [ug_ne (ne0 i hi'), hT9n _ (nf i hi')]; exact h.a i hi'
  · rcases List.mem_cons.mp hi with rfl | hi'
    · rcases how with ⟨rfl, -⟩ | ⟨rfl, hh⟩
      · rw [ug_at, fR_wR]; simp
      · omega
    · rw [ug_ne (ne0 i hi'), fR_wR_ne _ _ _ (ne0 i hi'), fR_nO_ne _ ng]; exact h.rg i hi' hl
  · rcases List.mem_cons.mp hi with rfl | hi'
    · rcases how with ⟨rfl, hh⟩ | ⟨rfl, -⟩
      · omega
      · rw [ug_at, fR_wR]; simp
    · rw [ug_ne (ne0 i hi'), fR_wR_ne _ _ _ (ne0 i hi'), fR_nO_ne _ nm]; exact h.rm i hi' hl
  · rcases List.mem_cons.mp hi with rfl | hi'
    · rcases List.mem_cons.mp hj with rfl | hj'
      · rfl
      · rw [ug_at, ug_ne (ne0 j hj')] at e; exact absurd e.symm (nf j hj')
    · rcases List.mem_cons.mp hj with rfl | hj'
      · rw [ug_at, ug_ne (ne0 i hi')] at e; exact absurd e (nf i hi')
      · rw [ug_ne (ne0 i hi'), ug_ne (ne0 j hj')] at e; exact h.inj i hi' j hj' e
  · show aI (nO g a k n) _ x = 0
    rcases List.mem_cons.mp hi with rfl | hi'
    · rw [ug_at]; exact nO_aI g x
    · rw [ug_ne (ne0 i hi'), aI_nO_ne _ (nf i hi')]; exact h.zr i hi' x
  · show fI (nO g a k n) x gr = 0
    rw [fI_nO_ne _ ng]; exact h.i x hx
  · show fI (nO g a k n) x m = 0
    rw [fI_nO_ne _ nm]; exact h.im x
  · have hw := h.wk (l34 hm) s hs
    show hT (nO g a k n) _ = _
    rw [f34, hT9n _ (na _ (nn hw))]; exact hw
  · show aR (nO g a k n) _ s = _
    rw [f34, aR_nO_ne _ (nf 34 (l34 hm))]; exact h.wr (l34 hm) s hs
  · rw [f34]
    rcases List.mem_cons.mp hi with rfl | hi'
    · rw [ug_at]; exact na _ (nn (h.wk (l34 hm) s hs))
    · rw [ug_ne (ne0 i hi')]; exact h.wf (l34 hm) s hs i hi'
  · rcases List.mem_cons.mp hi with rfl | hi'
    · rw [ug_at]; exact ha0
    · rw [ug_ne (ne0 i hi')]; exact h.fa i hi'
theorem GI.newG (h : GI m gr l f g0 g) (i0 : Nat) (h0 : i0 ∉ l) (h34 : i0 ≠ 34) {a k n : Nat} (ha : hT g a = none) (hk : MK i0 = (k, n)) (hi : i0 ≤ 50) : GI m gr (i0 :: l) (ug f i0 a) g0 (wR (nO g a k n) i0 gr (some a)) := h.new0 i0 h0 h34 ha hk (Or.inl ⟨rfl, hi⟩)
theorem GI.newM (h : GI m gr l f g0 g) (i0 : Nat) (h0 : i0 ∉ l) (h34 : i0 ≠ 34) {a k n : Nat} (ha : hT g a = none) (hk : MK i0 = (k, n)) (hi : 51 < i0) : GI m gr (i0 :: l) (ug f i0 a) g0 (wR (nO g a k n) i0 m (some a)) := h.new0 i0 h0 h34 ha hk (Or.inr ⟨rfl, hi⟩)
theorem GI.w46 (h : GI m gr l f g0 g) (v : Int32) : GI m gr l f g0 (wI g 46 gr v) := GI.mk h.km h.kg h.a h.rg h.rm h.inj h.zr (h.v.wI h.fg) h.fm h.fg (fun x hx => by rw [fI_wI_ne _ _ _ hx]; exact h.i x hx) (fun x => by
  by_cases e : x = 46
  · subst e; rw [fI_wI]; simp only [h.mg, if_false]; exact h.im 46
  · rw [fI_wI_ne _ _ _ e]; exact h.im x) h.wk h.wr h.wf h.fa h.fw
theorem GI.w51 (h : GI m gr l f g0 g) (hl : 51 ∉ l) (v : Option Nat) : GI m gr l f g0 (wR g 51 m v) := by
  have e : ∀ i ∈ l, i ≠ 51 := fun i hi e => hl (e ▸ hi)
  exact GI.mk h.km h.kg h.a (fun i hi hh => by rw [fR_wR_ne _ _ _ (e i hi)]; exact h.rg i hi hh) (fun i hi hh => by rw [fR_wR_ne _ _ _ (e i hi)]; exact h.rm i hi hh) h.inj h.zr (h.v.wR h.fm) h.fm h.fg h.i h.im h.wk h.wr h.wf h.fa h.fw
theorem GI.nw (h : GI m gr l f g0 g) (h0 : 34 ∉ l) {a : Nat} (ha : ∀ i, i < 17 → hT g (a + i) = none) : GI m gr (34 :: l) (ug f 34 a) g0 (wR (nM g a) 34 gr (some a)) := by
  have na : ∀ q, hT g q ≠ none → ¬ (a ≤ q ∧ q < a + 17) := fun q hq hh => by
    have := ha (q - a) (by omega)
    have e : a + (q - a) = q := by omega
    rw [e] at this
    exact hq this
  have nm := na m (nn h.km)
  have ng := na gr (nn h.kg)
  have nf : ∀ i ∈ l, ¬ (a ≤ f i ∧ f i < a + 17) := fun i hi => na _ (nn (h.a i hi))
  have ne0 : ∀ i ∈ l, i ≠ 34 := fun i hi e => h0 (e ▸ hi)
  have T : ∀ q, ¬ (a ≤ q ∧ q < a + 17) → hT (nM g a) q = hT g q := fun q hq => by
    have h1 : q ≠ a := fun e => hq (by omega)
    have h2 : ¬ (a < q ∧ q < a + 17) := fun e => hq (by omega)
    simp only [hT, nM, h1, h2, if_false]
  have Ri : ∀ q, ¬ (a ≤ q ∧ q < a + 17) → ∀ x, fI (nM g a) x q = fI g x q := fun q hq x => by simp only [fI, nM, hq, if_false]
  have Rr : ∀ q, ¬ (a ≤ q ∧ q < a + 17) → ∀ x, fR (nM g a) x q = fR g x q := fun q hq x => by simp only [fR, nM, hq, if_false]
  have Ai : ∀ q, ¬ (a ≤ q ∧ q < a + 17) → aI (nM g a) q = aI g q := fun q hq => by funext x; simp only [aI, nM, hq, if_false]
  have Ar : ∀ q, ¬ (a ≤ q ∧ q < a + 17) → aR (nM g a) q = aR g q := fun q hq => by
    have h1 : q ≠ a := fun e => hq (by omega)
    have h2 : ¬ (a < q ∧ q < a + 17) := fun e => hq (by omega)
    funext x; simp only [aR, nM, h1, h2, if_false]
  have Al : ∀ q, ¬ (a ≤ q ∧ q < a + 17) → aL (nM g a) q = aL g q := fun q hq => by funext x; simp only [aL, nM, hq, if_false]
  have lvM : lv g0 (nM g a) := by
    have q0 : ∀ q, hT g0 q ≠ none → ¬ (a ≤ q ∧ q < a + 17) := fun q hq => na q (by rw [h.v.t q hq]; exact hq)
    exact lv.mk (fun q hq => (T q (q0 q hq)).trans (h.v.t q hq)) (fun q hq x => (Ri q (q0 q hq) x).trans (h.v.i q hq x)) (fun q hq x => (Rr q (q0 q hq) x).trans (h.v.r q hq x)) (fun q hq => (Ai q (q0 q hq)).trans (h.v.ai q hq)) (fun q hq => (Ar q (q0 q hq)).trans (h.v.ar q hq)) (fun q hq => (Al q (q0 q hq)).trans (h.v.al q hq))
  refine GI.mk ((T m nm).trans h.km) ((T gr ng).trans h.kg) (fun i hi => ?_) (fun i hi hl => ?_) (fun i hi hl => ?_) (fun i hi j hj e => ?_) (fun i hi x => ?_) (lvM.wR h.fg) h.fm h.fg (fun x hx => (Ri gr ng x).trans (h.i x hx)) (fun x => (Ri m nm x).trans (h.im x)) (fun _ s hs => ?_) (fun _ s hs => ?_) (fun _ s hs i hi => ?_) (fun i hi => ?_) (fun _ s hs => ?_)
  · show hT (nM g a) _ = _
    rcases List.mem_cons.mp hi with rfl | hi'
    · rw [ug_at]
      have e : MK 34 = (107, 16) := rfl
      rw [e]
      simp [hT, nM]
    · rw [ug_ne (ne0 i hi'), T _ (nf i hi')]; exact h.a i hi'
  · rcases List.mem_cons.mp hi with rfl | hi'
    · rw [ug_at, fR_wR]; simp
    · rw [ug_ne (ne0 i hi'), fR_wR_ne _ _ _ (ne0 i hi'), Rr gr ng]; exact h.rg i hi' hl
  · rcases List.mem_cons.mp hi with rfl | hi'
    · omega
    · rw [ug_ne (ne0 i hi'), fR_wR_ne _ _ _ (ne0 i hi'), Rr m nm]; exact h.rm i hi' hl
  · rcases List.mem_cons.mp hi with rfl | hi'
    · rcases List.mem_cons.mp hj with rfl | hj'
      · rfl
      · rw [ug_at, ug_ne (ne0 j hj')] at e; exact absurd ⟨by omega, by omega⟩ (nf j hj')
    · rcases List.mem_cons.mp hj with rfl | hj'
      · rw [ug_at, ug_ne (ne0 i hi')] at e; exact absurd ⟨by omega, by omega⟩ (nf i hi')
      · rw [ug_ne (ne0 i hi'), ug_ne (ne0 j hj')] at e; exact h.inj i hi' j hj' e
  · show aI (nM g a) _ x = 0
    rcases List.mem_cons.mp hi with rfl | hi'
    · rw [ug_at]
      have : a ≤ a ∧ a < a + 17 := by omega
      simp only [aI, nM, this, and_self, if_true]
    · rw [ug_ne (ne0 i hi'), Ai _ (nf i hi')]; exact h.zr i hi' x
  · rw [ug_at]
    show hT (nM g a) (a + 1 + s) = some (100, 8)
    have h1 : a + 1 + s ≠ a := by omega
    have h2 : a < a + 1 + s ∧ a + 1 + s < a + 17 := by omega
    simp only [hT, nM, h1, h2, and_self, if_false, if_true]
  · rw [ug_at]
    show aR (nM g a) a s = some (a + 1 + s)
    simp only [aR, nM, hs, if_true]
  · rw [ug_at]
    rcases List.mem_cons.mp hi with rfl | hi'
    · rw [ug_at]; omega
    · rw [ug_ne (ne0 i hi')]; exact fun e => nf i hi' ⟨by omega, by omega⟩
  · rcases List.mem_cons.mp hi with rfl | hi'
    · rw [ug_at]; exact lv_none h.v (ha 0 (by omega))
    · rw [ug_ne (ne0 i hi')]; exact h.fa i hi'
  · rw [ug_at]
    have := lv_none h.v (ha (1 + s) (by omega))
    rw [← Nat.add_assoc] at this
    exact this
theorem isF_mem (i : Nat) (h : isF i) : i ∈ [55, 53, 52, 50, 49, 48, 47, 45, 44, 43, 42, 41, 40, 39, 38, 37, 36, 35, 34, 33, 32] := by
  simp only [List.mem_cons, List.not_mem_nil, or_false]
  unfold isF at h
  omega
theorem GI.rm0 (h : GI m gr [55, 53, 52, 50, 49, 48, 47, 45, 44, 43, 42, 41, 40, 39, 38, 37, 36, 35, 34, 33, 32] f g0 g) (h51 : fR g 51 m = some gr) (h46 : fI g 46 gr = -1) : RM G0 (MA.mk m gr f (fun s => f 34 + 1 + s) (fun _ => 8) 8192) g ∧ RMi G0 (MA.mk m gr f (fun s => f 34 + 1 + s) (fun _ => 8) 8192) [] g := by
  have nl : ∀ s : Nat, ¬ s < G0.ne := fun s hs => Nat.not_lt_zero s hs
  have na : ∀ s : Nat, ¬ s < G0.na := fun s hs => Nat.not_lt_zero s hs
  have R : RM G0 (MA.mk m gr f (fun s => f 34 + 1 + s) (fun _ => 8) 8192) g := by
    refine RM.mk (RMk.mk h.km h.kg (fun i hi => h.a i (isF_mem i hi)) (fun s hs => h.wk (by decide) s hs) (fun s hs => ⟨Nat.le_refl _, by show 8 ≤ 16384; omega⟩) (fun i j hi hj e => h.inj i (isF_mem i hi) j (isF_mem j hj) e) (fun s i hs hi => h.wf (by decide) s hs i (isF_mem i hi)) (fun s t hs ht e => ?_)) (RMf.mk h51 (fun i hi => h.rg i (isF_mem i (Or.inl hi)) hi.2.1) (h.rm 52 (by decide) (by decide)) (h.rm 53 (by decide) (by decide)) (h.rm 55 (by decide) (by decide)) (fun s hs => h.wr (by decide) s hs)) ?_
    · have e' : f 34 + 1 + s = f 34 + 1 + t := e
      omega
    · refine RMc.mk (h.i 29 (by decide)) (h.i 30 (by decide)) ?_ ?_ (fun s hs => absurd hs (na s)) (fun s hs => ?_) (fun s n hs => absurd hs (na s)) (fun s hs => absurd hs (na s)) (fun e he => absurd he (nl e)) (fun e he => absurd he (nl e)) (fun e s he => absurd he (nl e)) (fun e he => absurd he (nl e)) (fun e he => absurd he (nl e)) (fun e he => absurd he (nl e)) (fun e he => absurd he (nl e)) (fun e he => absurd he (nl e)) (fun i x hx => ?_)
      · show fI g 31 gr = nI ((od G0).length - 1)
        rw [G0_od]; exact h.i 31 (by decide)
      · exact h46
      · rw [if_neg (na s)]; exact h.zr 33 (by decide) s
      · rw [G0_od] at hx; cases hx
  exact ⟨R, RMi.nil R (h.im 54)⟩
theorem t_Ginit (h : GI m gr [] f g0 g) (hmc : 40 ≤ mc) (hms : 300000 ≤ ms) {post : Sg → Prop} (k : ∀ f2 g2, GI m gr [50, 49, 48, 47, 45, 44, 43, 42, 41, 40, 39, 38, 37, 36, 35, 34, 33, 32] f2 g0 g2 → fI g2 46 gr = -1 → post g2) : w_G_init z mi mc ms post g gr := by
  unfold w_G_init
  have H0 := h
  refine ⟨16, rfl, by omega, by omega, by omega, fun a1 h1 => ?_⟩
  rintro _ rfl
  have H1 := H0.newG 32 (by decide) (by decide) h1 (k := 100) (n := 16) rfl (by decide)
  refine ⟨hasR_of (k := 5) (n := 22) H1.kg (by decide), ?_⟩
  intro g1 e1
  rw [← e1] at H1
  clear e1
  refine ⟨16, rfl, by omega, by omega, by omega, fun a2 h2 => ?_⟩
  rintro _ rfl
  have H2 := H1.newG 33 (by decide) (by decide) h2 (k := 100) (n := 16) rfl (by decide)
  refine ⟨hasR_of (k := 5) (n := 22) H2.kg (by decide), ?_⟩
  intro g2 e2
  rw [← e2] at H2
  clear e2
  refine ⟨rfl, rfl, by omega, by omega, fun a3 h3 => ?_⟩
  rintro _ rfl
  have H3 := H2.nw (by decide) h3
  refine ⟨hasR_of (k := 5) (n := 22) H3.kg (by decide), ?_⟩
  intro g3 e3
  rw [← e3] at H3
  clear e3
  refine ⟨8192, rfl, by omega, by omega, by omega, fun a4 h4 => ?_⟩
  rintro _ rfl
  have H4 := H3.newG 35 (by decide) (by decide) h4 (k := 100) (n := 8192) rfl (by decide)
  refine ⟨hasR_of (k := 5) (n := 22) H4.kg (by decide), ?_⟩
  intro g4 e4
  rw [← e4] at H4
  clear e4
  refine ⟨8192, rfl, by omega, by omega, by omega, fun a5 h5 => ?_⟩
  rintro _ rfl
  have H5 := H4.newG 36 (by decide) (by decide) h5 (k := 100) (n := 8192) rfl (by decide)
  refine ⟨hasR_of (k := 5) (n := 22) H5.kg (by decide), ?_⟩
  intro g5 e5
  rw [← e5] at H5
  clear e5
  refine ⟨131072, rfl, by omega, by omega, by omega, fun a6 h6 => ?_⟩
  rintro _ rfl
  have H6 := H5.newG 37 (by decide) (by decide) h6 (k := 101) (n := 131072) rfl (by decide)
  refine ⟨hasR_of (k := 5) (n := 22) H6.kg (by decide), ?_⟩
  intro g6 e6
  rw [← e6] at H6
  clear e6
  refine ⟨8192, rfl, by omega, by omega, by omega, fun a7 h7 => ?_⟩
  rintro _ rfl
  have H7 := H6.newG 38 (by decide) (by decide) h7 (k := 102) (n := 8192) rfl (by decide)
  refine ⟨hasR_of (k := 5) (n := 22) H7.kg (by decide), ?_⟩
  intro g7 e7
  rw [← e7] at H7
  clear e7
  refine ⟨8192, rfl, by omega, by omega, by omega, fun a8 h8 => ?_⟩
  rintro _ rfl
  have H8 := H7.newG 39 (by decide) (by decide) h8 (k := 100) (n := 8192) rfl (by decide)
  refine ⟨hasR_of (k := 5) (n := 22) H8.kg (by decide), ?_⟩
  intro g8 e8
  rw [← e8] at H8
  clear e8
  refine ⟨8192, rfl, by omega, by omega, by omega, fun a9 h9 => ?_⟩
  rintro _ rfl
  have H9 := H8.newG 40 (by decide) (by decide) h9 (k := 100) (n := 8192) rfl (by decide)
  refine ⟨hasR_of (k := 5) (n := 22) H9.kg (by decide), ?_⟩
  intro g9 e9
  rw [← e9] at H9
  clear e9
  refine ⟨8192, rfl, by omega, by omega, by omega, fun a10 h10 => ?_⟩
  rintro _ rfl
  have H10 := H9.newG 41 (by decide) (by decide) h10 (k := 100) (n := 8192) rfl (by decide)
  refine ⟨hasR_of (k := 5) (n := 22) H10.kg (by decide), ?_⟩
  intro g10 e10
  rw [← e10] at H10
  clear e10
  refine ⟨8192, rfl, by omega, by omega, by omega, fun a11 h11 => ?_⟩
  rintro _ rfl
  have H11 := H10.newG 42 (by decide) (by decide) h11 (k := 100) (n := 8192) rfl (by decide)
  refine ⟨hasR_of (k := 5) (n := 22) H11.kg (by decide), ?_⟩
  intro g11 e11
  rw [← e11] at H11
  clear e11
  refine ⟨8192, rfl, by omega, by omega, by omega, fun a12 h12 => ?_⟩
  rintro _ rfl
  have H12 := H11.newG 43 (by decide) (by decide) h12 (k := 100) (n := 8192) rfl (by decide)
  refine ⟨hasR_of (k := 5) (n := 22) H12.kg (by decide), ?_⟩
  intro g12 e12
  rw [← e12] at H12
  clear e12
  refine ⟨8192, rfl, by omega, by omega, by omega, fun a13 h13 => ?_⟩
  rintro _ rfl
  have H13 := H12.newG 44 (by decide) (by decide) h13 (k := 100) (n := 8192) rfl (by decide)
  refine ⟨hasR_of (k := 5) (n := 22) H13.kg (by decide), ?_⟩
  intro g13 e13
  rw [← e13] at H13
  clear e13
  refine ⟨8192, rfl, by omega, by omega, by omega, fun a14 h14 => ?_⟩
  rintro _ rfl
  have H14 := H13.newG 45 (by decide) (by decide) h14 (k := 102) (n := 8192) rfl (by decide)
  refine ⟨hasR_of (k := 5) (n := 22) H14.kg (by decide), ?_⟩
  intro g14 e14
  rw [← e14] at H14
  clear e14
  refine ⟨hasI_of H14.kg (by decide), ?_⟩
  intro g15 e15
  have H15 := H14.w46 (-1)
  rw [← e15] at H15
  have z15 : fI g15 46 gr = -1 := by rw [e15, fI_wI]; simp
  clear e15
  refine ⟨8192, rfl, by omega, by omega, by omega, fun a16 h16 => ?_⟩
  rintro _ rfl
  have H16 := H15.newG 47 (by decide) (by decide) h16 (k := 100) (n := 8192) rfl (by decide)
  refine ⟨hasR_of (k := 5) (n := 22) H16.kg (by decide), ?_⟩
  intro g16 e16
  have z16 : fI g16 46 gr = -1 := by
    rw [e16]
    show fI (nO g15 a16 100 8192) 46 gr = -1
    rw [fI_nO_ne _ (lv_ne h16 _ (nn H15.kg))]; exact z15
  rw [← e16] at H16
  clear e16
  refine ⟨8192, rfl, by omega, by omega, by omega, fun a17 h17 => ?_⟩
  rintro _ rfl
  have H17 := H16.newG 48 (by decide) (by decide) h17 (k := 100) (n := 8192) rfl (by decide)
  refine ⟨hasR_of (k := 5) (n := 22) H17.kg (by decide), ?_⟩
  intro g17 e17
  have z17 : fI g17 46 gr = -1 := by
    rw [e17]
    show fI (nO g16 a17 100 8192) 46 gr = -1
    rw [fI_nO_ne _ (lv_ne h17 _ (nn H16.kg))]; exact z16
  rw [← e17] at H17
  clear e17
  refine ⟨8192, rfl, by omega, by omega, by omega, fun a18 h18 => ?_⟩
  rintro _ rfl
  have H18 := H17.newG 49 (by decide) (by decide) h18 (k := 100) (n := 8192) rfl (by decide)
  refine ⟨hasR_of (k := 5) (n := 22) H18.kg (by decide), ?_⟩
  intro g18 e18
  have z18 : fI g18 46 gr = -1 := by
    rw [e18]
    show fI (nO g17 a18 100 8192) 46 gr = -1
    rw [fI_nO_ne _ (lv_ne h18 _ (nn H17.kg))]; exact z17
  rw [← e18] at H18
  clear e18
  refine ⟨8192, rfl, by omega, by omega, by omega, fun a19 h19 => ?_⟩
  rintro _ rfl
  have H19 := H18.newG 50 (by decide) (by decide) h19 (k := 100) (n := 8192) rfl (by decide)
  refine ⟨hasR_of (k := 5) (n := 22) H19.kg (by decide), ?_⟩
  intro g19 e19
  have z19 : fI g19 46 gr = -1 := by
    rw [e19]
    show fI (nO g18 a19 100 8192) 46 gr = -1
    rw [fI_nO_ne _ (lv_ne h19 _ (nn H18.kg))]; exact z18
  rw [← e19] at H19
  clear e19
  exact k _ _ H19 z19
theorem t_Minit (hm : hT g m = some (6, 6)) (hi : ∀ x, fI g x m = 0) (hm0 : hT g0 m = none) (hv : lv g0 g) (hmc : 50 ≤ mc) (hms : 300200 ≤ ms) {post : Sg → Prop} (k : ∀ M g2, RM G0 M g2 → RMi G0 M [] g2 → M.ho = 8192 → M.m = m → (∀ s, M.rl s = 8) → lv g0 g2 → hT g0 M.gr = none → (∀ i, isF i → hT g0 (M.f i) = none) → (∀ s, s < 16 → hT g0 (M.rw s) = none) → fI g2 56 m = 0 → post g2) : w_M_init z mi mc ms post g m := by
  unfold w_M_init
  refine ⟨by omega, by omega, fun gr hg => ?_⟩
  rintro _ rfl
  have nm : m ≠ gr := lv_ne hg _ (nn hm)
  have hg0 := lv_none hv hg
  have H : GI m gr [] (fun _ => 0) g0 (nO g gr 5 22) := GI.mk (by rw [hT9n _ nm]; exact hm) (hT9 _ _ _ _) (fun i h => nomatch h) (fun i h => nomatch h) (fun i h => nomatch h) (fun i h => nomatch h) (fun i h => nomatch h) (hv.nO hg0) hm0 hg0 (fun x _ => fI_nO _) (fun x => by rw [fI_nO_ne _ nm]; exact hi x) (fun h => nomatch h) (fun h => nomatch h) (fun h => nomatch h) (fun i h => nomatch h) (fun h => nomatch h)
  refine ⟨40, 300000, by omega, by omega, ?_⟩
  refine t_Ginit H (by omega) (by omega) (fun f1 g1 H1 z1 => ?_)
  refine ⟨hasR_of H1.km (by decide), ?_⟩
  intro g2 e2
  have H2 := H1.w51 (by decide) (some gr)
  rw [← e2] at H2
  have w2 : fR g2 51 m = some gr := by rw [e2, fR_wR]; simp
  have z2 : fI g2 46 gr = -1 := by rw [e2]; exact z1
  clear e2
  refine ⟨16, rfl, by omega, by omega, by omega, fun a3 h3 => ?_⟩
  rintro _ rfl
  have H3 := H2.newM 52 (by decide) (by decide) h3 (k := 100) (n := 16) rfl (by decide)
  refine ⟨hasR_of (k := 6) (n := 6) H3.km (by decide), ?_⟩
  intro g3 e3
  have w3 : fR g3 51 m = some gr := by
    rw [e3, fR_wR_ne _ _ _ (by decide), fR_nO_ne _ (lv_ne h3 _ (nn H2.km))]; exact w2
  have z3 : fI g3 46 gr = -1 := by
    rw [e3]
    show fI (nO g2 a3 100 16) 46 gr = -1
    rw [fI_nO_ne _ (lv_ne h3 _ (nn H2.kg))]; exact z2
  rw [← e3] at H3
  clear e3
  refine ⟨16, rfl, by omega, by omega, by omega, fun a4 h4 => ?_⟩
  rintro _ rfl
  have H4 := H3.newM 53 (by decide) (by decide) h4 (k := 100) (n := 16) rfl (by decide)
  refine ⟨hasR_of (k := 6) (n := 6) H4.km (by decide), ?_⟩
  intro g4 e4
  have w4 : fR g4 51 m = some gr := by
    rw [e4, fR_wR_ne _ _ _ (by decide), fR_nO_ne _ (lv_ne h4 _ (nn H3.km))]; exact w3
  have z4 : fI g4 46 gr = -1 := by
    rw [e4]
    show fI (nO g3 a4 100 16) 46 gr = -1
    rw [fI_nO_ne _ (lv_ne h4 _ (nn H3.kg))]; exact z3
  rw [← e4] at H4
  clear e4
  refine ⟨16, rfl, by omega, by omega, by omega, fun a5 h5 => ?_⟩
  rintro _ rfl
  have H5 := H4.newM 55 (by decide) (by decide) h5 (k := 101) (n := 16) rfl (by decide)
  refine ⟨hasR_of (k := 6) (n := 6) H5.km (by decide), ?_⟩
  intro g5 e5
  have w5 : fR g5 51 m = some gr := by
    rw [e5, fR_wR_ne _ _ _ (by decide), fR_nO_ne _ (lv_ne h5 _ (nn H4.km))]; exact w4
  have z5 : fI g5 46 gr = -1 := by
    rw [e5]
    show fI (nO g4 a5 101 16) 46 gr = -1
    rw [fI_nO_ne _ (lv_ne h5 _ (nn H4.kg))]; exact z4
  rw [← e5] at H5
  clear e5
  obtain ⟨R, Ri⟩ := H5.rm0 w5 z5
  exact k _ _ R Ri rfl rfl (fun _ => rfl) H5.v hg0 (fun i hi => H5.fa i (isF_mem i hi)) (fun s hs => H5.fw (by decide) s hs) (H5.im 56)
end MIN
