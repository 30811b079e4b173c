section CN
variable {z mi mc ms : Nat} {G G2 : AG} {A : CA} {g g1 g2 : Sg} {L : List Nat} {V W : Nat → Nat}
def lv (g g1 : Sg) : Prop := (∀ q, hT g q ≠ none → hT g1 q = hT g q) ∧ (∀ q, hT g q ≠ none → ∀ f, fI g1 f q = fI g f q) ∧ (∀ q, hT g q ≠ none → ∀ f, fR g1 f q = fR g f q) ∧ (∀ q, hT g q ≠ none → aI g1 q = aI g q) ∧ (∀ q, hT g q ≠ none → aR g1 q = aR g q) ∧ (∀ q, hT g q ≠ none → aL g1 q = aL g q)
theorem lv.t {g g1 : Sg} (h : lv g g1) : ∀ q, hT g q ≠ none → hT g1 q = hT g q := h.1
theorem lv.i {g g1 : Sg} (h : lv g g1) : ∀ q, hT g q ≠ none → ∀ f, fI g1 f q = fI g f q := h.2.1
theorem lv.r {g g1 : Sg} (h : lv g g1) : ∀ q, hT g q ≠ none → ∀ f, fR g1 f q = fR g f q := h.2.2.1
theorem lv.ai {g g1 : Sg} (h : lv g g1) : ∀ q, hT g q ≠ none → aI g1 q = aI g q := h.2.2.2.1
theorem lv.ar {g g1 : Sg} (h : lv g g1) : ∀ q, hT g q ≠ none → aR g1 q = aR g q := h.2.2.2.2.1
theorem lv.al {g g1 : Sg} (h : lv g g1) : ∀ q, hT g q ≠ none → aL g1 q = aL g q := h.2.2.2.2.2
theorem lv.mk {g g1 : Sg} (h0 : ∀ q, hT g q ≠ none → hT g1 q = hT g q) (h1 : ∀ q, hT g q ≠ none → ∀ f, fI g1 f q = fI g f q) (h2 : ∀ q, hT g q ≠ none → ∀ f, fR g1 f q = fR g f q) (h3 : ∀ q, hT g q ≠ none → aI g1 q = aI g q) (h4 : ∀ q, hT g q ≠ none → aR g1 q = aR g q) (h5 : ∀ q, hT g q ≠ none → aL g1 q = aL g q) : lv g g1 := ⟨h0, h1, h2, h3, h4, h5⟩
theorem lv.refl (g : Sg) : lv g g := lv.mk (fun _ _ => rfl) (fun _ _ _ => rfl) (fun _ _ _ => rfl) (fun _ _ => rfl) (fun _ _ => rfl) (fun _ _ => rfl)
theorem lv_ne {a : Nat} (ha : hT g a = none) : ∀ q, hT g q ≠ none → q ≠ a := fun q hq e => hq (by rw [e]; exact ha)
theorem lv.nO (h : lv g g1) {a k n : Nat} (ha : hT g a = none) : lv g (nO g1 a k n) := lv.mk
  (fun q hq => by rw [hT9n _ (lv_ne ha q hq)]; exact h.t q hq) (fun q hq f => by rw [fI_nO_ne _ (lv_ne ha q hq)]; exact h.i q hq f) (fun q hq f => by rw [fR_nO_ne _ (lv_ne ha q hq)]; exact h.r q hq f)
  (fun q hq => by rw [aI_nO_ne _ (lv_ne ha q hq)]; exact h.ai q hq) (fun q hq => by rw [aR_nO_ne _ (lv_ne ha q hq)]; exact h.ar q hq) (fun q hq => by rw [aL_nO_ne _ (lv_ne ha q hq)]; exact h.al q hq)
theorem lv.wI (h : lv g g1) {a f : Nat} {v : Int32} (ha : hT g a = none) : lv g (wI g1 f a v) := lv.mk h.t (fun q hq f' => by
  by_cases e : f' = f
  · subst e
    rw [fI_wI]; simp only [lv_ne ha q hq, if_false]; exact h.i q hq f'
  · rw [fI_wI_ne _ _ _ e]; exact h.i q hq f') h.r h.ai h.ar h.al
theorem lv.wR (h : lv g g1) {a f : Nat} {v : Option Nat} (ha : hT g a = none) : lv g (wR g1 f a v) := lv.mk h.t h.i (fun q hq f' => by
  by_cases e : f' = f
  · subst e
    rw [fR_wR]; simp only [lv_ne ha q hq, if_false]; exact h.r q hq f'
  · rw [fR_wR_ne _ _ _ e]; exact h.r q hq f') h.ai h.ar h.al
theorem lv.cI (h : lv g g1) {a : Nat} {v : Nat → Int32} (ha : hT g a = none) : lv g (cI g1 a v) := lv.mk h.t h.i h.r (fun q hq => by
  rw [aI_cI_ne _ _ (lv_ne ha q hq)]; exact h.ai q hq) h.ar h.al
theorem lv.fc (h : lv g g1) (v : Nat) : fC v g g1 := fC.mk h.t (fun f a _ ha => h.i a ha f) (fun f a _ ha => h.r a ha f) (fun a ha _ => h.ai a ha) (fun a n ha => h.ar a (nn ha)) h.al
theorem RCk.lv (hK : RCk G A (hT g)) (h : ∀ q, hT g q ≠ none → hT g1 q = hT g q) : RCk G A (hT g1) := by
  have go : ∀ q y, hT g q = some y → hT g1 q = some y := fun q y e => by rw [h q (nn e)]; exact e
  exact RCk.mk (go _ _ hK.c) (go _ _ hK.ags) (go _ _ hK.arr) (go _ _ hK.rt) (go _ _ hK.li) (go _ _ hK.vw) (fun s hs => go _ _ (hK.ga s hs)) (fun s hs => go _ _ (hK.hl s hs)) (fun e he => go _ _ (hK.ea e he)) (fun e he => go _ _ (hK.bf e he)) hK.ea_inj hK.ea_rt hK.ga_inj hK.hl_inj hK.hl_arr hK.bf_vw hK.hd_inj hK.hd_ad
theorem nd_live (hw : WF G) (hK : RCk G A (hT g)) {x : Nat} (hx : x ∈ od G) : hT g (nd A x) ≠ none := by
  rcases (hw.mem x).mp hx with rfl | ⟨e, rfl, he, -⟩
  · exact nn hK.rt
  · exact nn (hK.ea e he)
theorem rS_cg {k : Nat → Bool → List Nat} {N : Nat → Nat} {F F' : Bool → Nat → Option Nat} {f f' : Nat → Option Nat} (hk : ∀ p b c, p ∈ tr_S k 8193 0 → c ∈ k p b → c ∈ tr_S k 8193 0) (h1 : ∀ x, x ∈ tr_S k 8193 0 → ∀ b, F' b (N x) = F b (N x)) (h2 : ∀ x, x ∈ tr_S k 8193 0 → f' (N x) = f (N x)) (h : rS k N F f) : rS k N F' f' := by
  intro p hp b
  rw [h1 p hp b]
  refine chn_congr _ _ (fun q hq => ?_) (h p hp b)
  obtain ⟨c, hc, rfl⟩ := List.mem_map.mp hq
  exact h2 c (hk p b c hp hc)
theorem rO_cg {k : Nat → Bool → List Nat} {N : Nat → Nat} {f17 f18 f17' f18' : Nat → Option Nat} (h1 : ∀ x, x ∈ tr_S k 8193 0 → f17' (N x) = f17 (N x)) (h2 : ∀ x, x ∈ tr_S k 8193 0 → f18' (N x) = f18 (N x)) (h : rO k N f17 f18) : rO k N f17' f18' := by
  refine ⟨chn_congr _ _ (fun q hq => ?_) h.1, prv_congr _ (fun q hq => ?_) h.2⟩
  · obtain ⟨c, hc, rfl⟩ := List.mem_map.mp hq
    exact h2 c hc
  · obtain ⟨c, hc, rfl⟩ := List.mem_map.mp hq
    exact h1 c hc
theorem rowD_lv {d cap n : Nat} {f : Nat → Nat} (ht : ∀ q, hT g q ≠ none → hT g1 q = hT g q) (har : ∀ q, hT g q ≠ none → aR g1 q = aR g q) (h : rowD z (hT g) (aR g) d cap n f) : rowD z (hT g1) (aR g1) d cap n f := by
  obtain ⟨r1, r2, r4, r3⟩ := h
  refine ⟨r1, r2, r4, ?_⟩
  rcases r3 with h | ⟨q1, q2, q3⟩
  · exact Or.inl h
  · exact Or.inr ⟨q1, by rw [ht _ (nn q2)]; exact q2, fun i hi => by rw [har _ (nn q2)]; exact q3 i hi⟩
theorem RCf.lv (hK : RCk G A (hT g)) (hF : RCf G A g) (hi : ∀ f q, hT g q ≠ none → f = 26 ∨ f = 4 ∨ f = 5 → fI g1 f q = fI g f q) (hr : ∀ f q, hT g q ≠ none → f = 6 ∨ (21 ≤ f ∧ f ≤ 25) → fR g1 f q = fR g f q) (har : aR g1 A.ags = aR g A.ags) : RCf G A g1 := by
  refine RCf.mk ?_ ?_ ?_ ?_ ?_ ?_ (fun s hs => ?_) (fun s hs => ?_) (fun s hs => ?_) (fun s hs => ?_)
  · rw [hr _ _ (nn hK.c) (by decide)]; exact hF.ags
  · rw [hr _ _ (nn hK.c) (by decide)]; exact hF.arr
  · rw [hr _ _ (nn hK.c) (by decide)]; exact hF.rt
  · rw [hr _ _ (nn hK.c) (by decide)]; exact hF.li
  · rw [hr _ _ (nn hK.c) (by decide)]; exact hF.vw
  · rw [hi _ _ (nn hK.c) (by decide)]; exact hF.na
  · rw [har]; exact hF.ag s hs
  · rw [hi _ _ (nn (hK.ga s hs)) (by decide)]; exact hF.nm s hs
  · rw [hi _ _ (nn (hK.ga s hs)) (by decide)]; exact hF.sl s hs
  · rw [hr _ _ (nn (hK.ga s hs)) (by decide)]; exact hF.hl s hs
theorem RCl.lv (hK : RCk G A (hT g)) (hl : RCl z G A (hT g) (fR g 2) (fI g 3) (aR g)) (ht : ∀ q, hT g q ≠ none → hT g1 q = hT g q) (h2 : ∀ q, hT g q ≠ none → fR g1 2 q = fR g 2 q) (h3 : ∀ q, hT g q ≠ none → fI g1 3 q = fI g 3 q) (har : ∀ q, hT g q ≠ none → aR g1 q = aR g q) : RCl z G A (hT g1) (fR g1 2) (fI g1 3) (aR g1) := by
  refine RCl.mk ?_ ?_ (rowD_lv ht har hl.row) (fun s hs => ?_) (fun s hs => ?_) (fun s hs => rowD_lv ht har (hl.hrow s hs))
  · rw [h3 _ (nn hK.arr)]; exact hl.n
  · rw [h2 _ (nn hK.arr)]; exact hl.d
  · rw [h3 _ (nn (hK.hl s hs))]; exact hl.hn s hs
  · rw [h2 _ (nn (hK.hl s hs))]; exact hl.hd s hs
theorem RC.lv (hw : WF G) (hR : RC z G A g) (h : lv g g1) : RC z G A g1 := by
  have hK := hR.k
  refine RC.mk (hK.lv h.t) (RCf.lv hK hR.f (fun f q hq _ => h.i q hq f) (fun f q hq _ => h.r q hq f) (h.ar _ (nn hK.ags))) (RCl.lv hK hR.l h.t (fun q hq => h.r q hq 2) (fun q hq => h.i q hq 3) h.ar) ?_ ?_ ?_ ?_ ?_
  · refine RCe.mk (fun e he => ?_) (fun e he => ?_) (fun e he => ?_) (fun e he => ?_) (fun e he hi => ?_) (fun e s he hs => ?_) hR.e.pa hR.e.own
    · rw [h.r _ (nn (hK.ea e he))]; exact hR.e.ag e he
    · rw [h.i _ (nn (hK.ea e he))]; exact hR.e.nu e he
    · rw [h.r _ (nn (hK.ea e he))]; exact hR.e.bf e he
    · rw [h.i _ (nn (hK.ea e he))]; exact hR.e.ar e he
    · rw [h.i _ (nn (hK.ea e he))]; exact hR.e.cd e he hi
    · rw [h.ai _ (nn (hK.bf e he))]; exact hR.e.bv e s he hs
  · refine rS_cg (fun p b c hp hc => od_kid hw hp hc) (fun x hx b => ?_) (fun x hx => ?_) hR.s
    · cases b with
      | false => exact h.r _ (nd_live hw hK hx) 14
      | true => exact h.r _ (nd_live hw hK hx) 15
    · exact h.r _ (nd_live hw hK hx) 16
  · exact rO_cg (fun x hx => h.r _ (nd_live hw hK hx) 17) (fun x hx => h.r _ (nd_live hw hK hx) 18) hR.o
  · refine RCd.mk (fun e he hi => ?_) (fun e he hi => ?_)
    · rw [h.r _ (nn (hK.ea e he))]
      refine chn_congr _ _ (fun q hq => ?_) (hR.d.ch e he hi)
      obtain ⟨d, hd, rfl⟩ := List.mem_map.mp hq
      exact h.r _ (nn (hK.ea d (hw.de_lt e d hd).2.1)) 12
    · rw [h.i _ (nn (hK.ea e he))]; exact hR.d.fc e he hi
  · refine ⟨?_, fun e he => ?_⟩
    · rw [h.i _ (nn hK.c)]; exact hR.t.1
    · rw [h.i _ (nn (hK.ea e he))]; exact hR.t.2 e he
theorem RCv.lv (hK : RCk G A (hT g)) (hV : RCv A V g) (h : lv g g1) : RCv A V g1 := fun s hs => by rw [h.ai _ (nn hK.vw)]; exact hV s hs
theorem RCi.lv (hK : RCk G A (hT g)) (hL : RCi G A L g) (h : lv g g1) : RCi G A L g1 := RCi.mk (by rw [h.i _ (nn hK.c)]; exact hL.n) hL.le hL.lt hL.nd (fun i e hi => by rw [h.ar _ (nn hK.li)]; exact hL.at i e hi)
theorem RC_new (hw : WF G) (hw2 : WF G2) {s a b : Nat} {B : Nat → Nat} {ad hd : Nat} (hE : evS G G2 s W) (hs : s < G.na) (hins : ∀ e, e < G.ne → G2.ins e = G.ins e) (hcd : ∀ e, e < G.ne → G.ins e = true → G2.cd e = G.cd e) (hK : RCk G A (hT g)) (hF : RCf G A g) (hEv : RCe G A (fR g 7) (fI g 8) (fR g 9) (fI g 10) (fI g 13) (aI g))
    (ha : hT g a = some (if G2.ins G.ne = true then (3, 13) else (2, 6))) (hfr : ∀ e, e < G.ne → A.ea e ≠ a) (hart : a ≠ A.rt) (hb : hT g b = some (100, 16)) (hbv : b ≠ A.vw) (hB : ∀ t, t < 16 → aI g b t = nI (B t)) (hBp : ∀ t, t < 16 → t ≠ s → B t = W t) (hBs : B s ≤ G.ct s) (a7 : fR g 7 a = some (A.ga s)) (a8 : fI g 8 a = nI (G.ct s)) (a9 : fR g 9 a = some b) (a13 : G2.ins G.ne = true → fI g 13 a = G2.cd G.ne)
    (hS : RCs G2 (ca2 A G s a b B ad hd) (fR g 14) (fR g 15) (fR g 16)) (hO : RCo G2 (ca2 A G s a b B ad hd) (fR g 17) (fR g 18)) (hD : RCd G2 (ca2 A G s a b B ad hd) (fR g 12) (fR g 19) (fI g 20)) (ht : fI g 28 A.c = nI (txL G2 (G.ne + 1))) (ht2 : ∀ e, e < G.ne → fI g 11 (A.ea e) = nI (txL G2 (e + 1)))
    (P : kpP z G G2 A (ca2 A G s a b B ad hd) a g g2) : RC z G2 (ca2 A G s a b B ad hd) g2 := by
  have sp : ∀ e, e < G2.ne → e < G.ne ∨ e = G.ne := fun e he => by rw [hE.ne] at he; omega
  have go : ∀ q y, hT g q = some y → hT g2 q = some y := fun q y e => by rw [P.t q (nn e)]; exact e
  have eao : ∀ e, e < G.ne → (ca2 A G s a b B ad hd).ea e = A.ea e := fun e he => ug_ne (by omega)
  have ean : (ca2 A G s a b B ad hd).ea G.ne = a := ug_at _ _ _
  have bfo : ∀ e, e < G.ne → (ca2 A G s a b B ad hd).bf e = A.bf e := fun e he => ug_ne (by omega)
  have bfn : (ca2 A G s a b B ad hd).bf G.ne = b := ug_at _ _ _
  have bvo : ∀ e, e < G.ne → (ca2 A G s a b B ad hd).bv e = A.bv e := fun e he => ug_ne (by omega)
  have bvn : (ca2 A G s a b B ad hd).bv G.ne = B := ug_at _ _ _
  have slo : ∀ e, e < G.ne → G2.sl e = G.sl e := fun e he => by rw [hE.sl, ug_ne (by omega)]
  have sln : G2.sl G.ne = s := by rw [hE.sl, ug_at]
  have nuo : ∀ e, e < G.ne → G2.nu e = G.nu e := fun e he => by rw [hE.nu, ug_ne (by omega)]
  have nun : G2.nu G.ne = G.ct s := by rw [hE.nu, ug_at]
  have eal : ∀ e, e < G2.ne → hT g ((ca2 A G s a b B ad hd).ea e) = some (if G2.ins e = true then (3, 13) else (2, 6)) := fun e he => by
    rcases sp e he with h | rfl
    · rw [eao e h, hins e h]; exact hK.ea e h
    · rw [ean]; exact ha
  have ndl : ∀ x, x ∈ od G2 → hT g (nd (ca2 A G s a b B ad hd) x) ≠ none := fun x hx => by
    rcases (hw2.mem x).mp hx with rfl | ⟨e, rfl, he, -⟩
    · exact nn hK.rt
    · exact nn (eal e he)
  refine RC.mk ?_ ?_ P.l ?_ ?_ ?_ ?_ ?_
  · refine RCk.mk (go _ _ hK.c) (go _ _ hK.ags) (go _ _ hK.arr) (go _ _ hK.rt) (go _ _ hK.li) (go _ _ hK.vw) (by rw [hE.na]; exact fun s hs => go _ _ (hK.ga s hs)) (by rw [hE.na]; exact fun s hs => go _ _ (hK.hl s hs)) (fun e he => go _ _ (eal e he)) (fun e he => ?_) (fun e e' he he' h => ?_) (fun e he => ?_) (by rw [hE.na]; exact hK.ga_inj) (by rw [hE.na]; exact hK.hl_inj) (by rw [hE.na]; exact hK.hl_arr) (fun e he => ?_) (by rw [hE.na]; exact P.hd_inj) (by rw [hE.na]; exact P.hd_ad)
    · rcases sp e he with h | rfl
      · rw [bfo e h]; exact go _ _ (hK.bf e h)
      · rw [bfn]; exact go _ _ hb
    · rcases sp e he with h1 | rfl
      · rcases sp e' he' with h2 | rfl
        · rw [eao e h1, eao e' h2] at h; exact hK.ea_inj e e' h1 h2 h
        · rw [eao e h1, ean] at h; exact absurd h (hfr e h1)
      · rcases sp e' he' with h2 | rfl
        · rw [eao e' h2, ean] at h; exact absurd h.symm (hfr e' h2)
        · rfl
    · rcases sp e he with h | rfl
      · rw [eao e h]; exact hK.ea_rt e h
      · rw [ean]; exact hart
    · rcases sp e he with h | rfl
      · rw [bfo e h]; exact hK.bf_vw e h
      · rw [bfn]; exact hbv
  · have hF2 : RCf G A g2 := RCf.lv hK hF (fun f q hq h => P.i f q hq (by omega) (by omega) (by omega) (by omega)) (fun f q hq h => P.r f q hq (by omega)) (P.ar _ _ _ hK.ags (by decide))
    refine RCf.mk hF2.ags hF2.arr hF2.rt hF2.li hF2.vw (by rw [hE.na]; exact hF2.na) (by rw [hE.na]; exact hF2.ag) (by rw [hE.na, hE.nm]; exact hF2.nm) (by rw [hE.na]; exact hF2.sl) (by rw [hE.na]; exact hF2.hl)
  · refine RCe.mk (fun e he => ?_) (fun e he => ?_) (fun e he => ?_) (fun e he => ?_) (fun e he hi => ?_) (fun e t he ht' => ?_) (fun e t he ht' hne => ?_) (fun e he => ?_)
    · rw [P.r 7 _ (nn (eal e he)) (by decide)]
      rcases sp e he with h | rfl
      · rw [eao e h, slo e h]; exact hEv.ag e h
      · rw [ean, sln]; exact a7
    · rw [P.i 8 _ (nn (eal e he)) (by decide) (by decide) (by decide) (by decide)]
      rcases sp e he with h | rfl
      · rw [eao e h, nuo e h]; exact hEv.nu e h
      · rw [ean, nun]; exact a8
    · rw [P.r 9 _ (nn (eal e he)) (by decide)]
      rcases sp e he with h | rfl
      · rw [eao e h, bfo e h]; exact hEv.bf e h
      · rw [ean, bfn]; exact a9
    · rw [P.i10 _ (nn (eal e he))]
      rcases sp e he with h | rfl
      · rw [eao e h, if_neg (hfr e h)]; exact hEv.ar e h
      · rw [ean, if_pos rfl]
    · rw [P.i 13 _ (nn (eal e he)) (by decide) (by decide) (by decide) (by decide)]
      rcases sp e he with h | rfl
      · rw [hins e h] at hi
        rw [eao e h, hcd e h hi]; exact hEv.cd e h hi
      · rw [ean]; exact a13 hi
    · rcases sp e he with h | rfl
      · rw [bfo e h, bvo e h, P.ai _ (nn (hK.bf e h))]; exact hEv.bv e t h ht'
      · rw [bfn, bvn, P.ai _ (nn hb)]; exact hB t ht'
    · rcases sp e he with h | rfl
      · rw [slo e h] at hne
        rw [bvo e h, hE.pa, ug_ne (by omega)]; exact hEv.pa e t h ht' hne
      · rw [sln] at hne
        rw [bvn, hE.pa, ug_at]; exact hBp t ht' hne
    · rcases sp e he with h | rfl
      · rw [bvo e h, slo e h, nuo e h]; exact hEv.own e h
      · rw [bvn, sln, nun]; exact hBs
  · refine rS_cg (fun p b c hp hc => od_kid hw2 hp hc) (fun x hx b => ?_) (fun x hx => P.r 16 _ (ndl x hx) (by decide)) hS
    cases b with
    | false => exact P.r 14 _ (ndl x hx) (by decide)
    | true => exact P.r 15 _ (ndl x hx) (by decide)
  · exact rO_cg (fun x hx => P.r 17 _ (ndl x hx) (by decide)) (fun x hx => P.r 18 _ (ndl x hx) (by decide)) hO
  · refine RCd.mk (fun e he hi => ?_) (fun e he hi => ?_)
    · rw [P.r 19 _ (nn (eal e he)) (by decide)]
      refine chn_congr _ _ (fun q hq => ?_) (hD.ch e he hi)
      obtain ⟨d, hd', rfl⟩ := List.mem_map.mp hq
      exact P.r 12 _ (nn (eal d (hw2.de_lt e d hd').2.1)) (by decide)
    · rw [P.i 20 _ (nn (eal e he)) (by decide) (by decide) (by decide) (by decide)]
      exact hD.fc e he hi
  · refine ⟨?_, fun e he => ?_⟩
    · show fI g2 28 A.c = _
      rw [P.i 28 _ (nn hK.c) (by decide) (by decide) (by decide) (by decide), hE.ne]
      exact ht
    · rw [P.i11 _ (nn (eal e he))]
      rcases sp e he with h | rfl
      · rw [eao e h, if_neg (hfr e h)]; exact ht2 e h
      · rw [ean, if_pos rfl]; exact ht
end CN
