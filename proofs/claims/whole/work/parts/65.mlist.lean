section ML
variable {z mi mc ms : Nat} {G : AG} {M : MA} {g : Sg} {L : List Nat} {V : Nat → Nat}
theorem RM.cA (hw : WF G) (hR : RM G M g) {i : Nat} (hi : i = 52 ∨ i = 53 ∨ i = 55) (h : Nat → Int32) : RM G M (cI g (M.f i) h) := by
  have hF : isF i := Or.inr hi
  have ef : ∀ j, isF j → j ≠ i → aI (cI g (M.f i) h) (M.f j) = aI g (M.f j) := fun j hj hne => aI_cI_ne g h (fun e => hne (hR.k.inj j i hj hF e))
  have er : ∀ s, s < 16 → aI (cI g (M.f i) h) (M.rw s) = aI g (M.rw s) := fun s hs => aI_cI_ne g h (hR.k.rwf s i hs hF)
  have n : ∀ j, isF j → j < 52 → j ≠ i := fun j _ hj => by omega
  refine RM.mk hR.k (RMf.mk hR.f.g hR.f.f hR.f.l hR.f.t hR.f.s hR.f.rw) ?_
  refine RMc.mk hR.c.ne hR.c.na hR.c.no ?_ ?_ ?_ (fun s n hs hn => ?_) hR.c.rl ?_ ?_ ?_ ?_ ?_ ?_ ?_ ?_ ?_
  · rw [ef 42 (by decide) (by omega)]; exact hR.c.rc
  · rw [ef 32 (by decide) (by omega)]; exact hR.c.nm
  · rw [ef 33 (by decide) (by omega)]; exact hR.c.ct
  · rw [er s (by have := hw.na_le; omega)]; exact hR.c.ev s n hs hn
  · rw [ef 35 (by decide) (by omega)]; exact hR.c.sl
  · rw [ef 36 (by decide) (by omega)]; exact hR.c.nu
  · rw [ef 37 (by decide) (by omega)]; exact hR.c.pa
  · rw [ef 38 (by decide) (by omega)]; exact hR.c.ins
  · rw [ef 40 (by decide) (by omega)]; exact hR.c.cd
  · rw [ef 42 (by decide) (by omega), ef 43 (by decide) (by omega)]; exact hR.c.lc
  · rw [ef 42 (by decide) (by omega), ef 44 (by decide) (by omega)]; exact hR.c.rch
  · rw [ef 48 (by decide) (by omega), ef 49 (by decide) (by omega)]; exact hR.c.de
  · rw [ef 50 (by decide) (by omega)]; exact hR.c.ord
theorem RM.w54 (hR : RM G M g) (a : Nat) (v : Int32) : RM G M (wI g 54 a v) := by
  have e : ∀ f, f ≠ 54 → fI (wI g 54 a v) f = fI g f := fun f hf => fI_wI_ne _ _ _ hf
  refine RM.mk hR.k (RMf.mk hR.f.g hR.f.f hR.f.l hR.f.t hR.f.s hR.f.rw) ?_
  refine RMc.mk ?_ ?_ ?_ ?_ hR.c.nm hR.c.ct hR.c.ev hR.c.rl hR.c.sl hR.c.nu hR.c.pa hR.c.ins hR.c.cd hR.c.lc hR.c.rch hR.c.de hR.c.ord
  · rw [e 29 (by decide)]; exact hR.c.ne
  · rw [e 30 (by decide)]; exact hR.c.na
  · rw [e 31 (by decide)]; exact hR.c.no
  · rw [e 46 (by decide)]; exact hR.c.rc
theorem fM.refl (M : MA) (g : Sg) : fM M g g := fM.mk (fun _ _ => rfl) (fun _ _ _ _ => rfl) (fun _ _ _ _ => rfl) (fun _ _ _ _ => rfl) (fun _ _ _ _ _ => rfl) (fun _ _ => rfl)
theorem fM.trans {g1 g2 g3 : Sg} (h : fM M g1 g2) (h' : fM M g2 g3) : fM M g1 g3 := by
  have q : ∀ a, hT g1 a ≠ none → hT g2 a ≠ none := fun a ha => by rw [h.t a ha]; exact ha
  exact fM.mk (fun a ha => (h'.t a (q a ha)).trans (h.t a ha)) (fun f a hf ha => (h'.i f a hf (q a ha)).trans (h.i f a hf ha)) (fun f a hf ha => (h'.r f a hf (q a ha)).trans (h.r f a hf ha))
    (fun a ha h1 h2 => (h'.ai a (q a ha) h1 h2).trans (h.ai a ha h1 h2)) (fun a k n ha hk => (h'.ar a k n ((h.t a (nn ha)).trans ha) hk).trans (h.ar a k n ha hk)) (fun a ha => (h'.al a (q a ha)).trans (h.al a ha))
theorem fM.cA {i : Nat} (hi : isF i) (h : Nat → Int32) : fM M g (cI g (M.f i) h) := fM.mk (fun _ _ => rfl) (fun _ _ _ _ => rfl) (fun _ _ _ _ => rfl) (fun a _ h1 _ => aI_cI_ne g h (h1 i hi)) (fun _ _ _ _ _ => rfl) (fun _ _ => rfl)
theorem fM.wIs {f a : Nat} {x : Int32} (hf : 29 ≤ f) : fM M g (wI g f a x) := fM.mk (fun _ _ => rfl) (fun f' q hf' _ => by rw [fI_wI_ne _ _ _ (by omega)]) (fun _ _ _ _ => rfl) (fun _ _ _ _ => rfl) (fun _ _ _ _ _ => rfl) (fun _ _ => rfl)
theorem t_Mparent (hw : WF G) (hR : RM G M g) (hL : RMi G M L g) {x y : Int32} (hmc : 1 ≤ mc) (hms : 6 ≤ ms) {post : Int32 → Sg → Prop} (k0 : (∀ e, ¬ fE G x y e) → post 0 (wI (wI g 56 M.m 0) 56 M.m 1)) (k1 : ∀ e, fE G x y e → e ∈ L → post 0 (wI (wI g 56 M.m 0) 56 M.m 2)) (k2 : ∀ e, fE G x y e → e ∉ L → L.length = 16 → post 0 (wI (wI g 56 M.m 0) 56 M.m 3))
    (kr : ∀ e g2, fE G x y e → e ∉ L → L.length < 16 → RM G M g2 → RMi G M (L ++ [e]) g2 → fM M g g2 → fI g2 56 M.m = 0 → post (nI (L.length + 1)) g2) : w_M_parent z mi mc ms post g M.m x y := by
  have hm := hR.k.m
  have hne := hw.ne_le
  have hle := hL.le
  unfold w_M_parent
  refine ⟨hasI_of hm (by decide), ?_⟩
  rintro _ rfl
  have hR1 := hR.w56 M.m 0
  have hL1 := hL.w56 M.m 0
  have hm1 := hR1.k.m
  have hg1 := hR1.k.gr
  have h52 := hR1.kf 52 (by decide) rfl
  refine ⟨⟨_, _, hm1, by decide⟩, 1, 6, by omega, by omega, ?_⟩
  unfold w_M_parent0
  (refine ⟨?_, ?_⟩; (focus (first | exact hasI_of (by assumption) (by decide) | exact hasR_of (by assumption) (by decide))); rintro _ rfl; try rw [hR1.f.g])
  refine ⟨_, rfl, ?_⟩
  refine ⟨⟨_, _, by assumption, by decide⟩, 0, 0, by omega, by omega, ?_⟩
  refine t_mfind hw hR1 (fun e hE he => ⟨fun _ => ?_, fun h => absurd (nI_pos' (by omega)) h⟩) (fun h => ⟨fun h => absurd h (by decide), fun _ => ⟨by omega, by omega, Or.inl ⟨rfl, hasI_of hm1 (by decide), ?_⟩⟩⟩)
  · have key : ∀ d i, i + d = L.length → (∀ j f, j < i → L[j]? = some f → f ≠ e) → ∀ kc ks, kc = 0 → ks = 0 → w_M_parent0_25 z mi 1 6 (fun x15 g14 => post x15 g14) (fun (i16 : Nat) (g17 : Sg) => (i16 = 0 ∧ (hasI g17 M.m 56 ∧ ∀ g20 : Sg, g20 = wI g17 56 M.m (1 : Int32) → post (0 : Int32) g20)) ∨ (i16 = 1 ∧ (hasI g17 M.m 56 ∧ ∀ g23 : Sg, g23 = wI g17 56 M.m (2 : Int32) → post (0 : Int32) g23)) ∨ (i16 = 2 ∧ (hasI g17 M.m 56 ∧ ∀ g26 : Sg, g26 = wI g17 56 M.m (3 : Int32) → post (0 : Int32) g26))) (d + 1) kc ks (wI g 56 M.m 0) M.m (nI e) (nI i) := by
      intro d
      induction d with
      | zero =>
        intro i hi hno kc ks hk hk'
        have hnm : e ∉ L := fun hmem => by
          obtain ⟨j, hj⟩ := List.getElem?_of_mem hmem
          have := (List.getElem?_eq_some_iff.mp hj).1
          exact hno j e (by omega) hj rfl
        unfold w_M_parent0_25
        (refine ⟨?_, ?_⟩; (focus (first | exact hasI_of (by assumption) (by decide) | exact hasR_of (by assumption) (by decide))); rintro _ rfl; try rw [hL1.n])
        refine ⟨fun _ => ?_, fun h => absurd ((lI (by omega) (by omega)).mpr (by omega)) h⟩
        (refine ⟨?_, ?_⟩; (focus (first | exact hasI_of (by assumption) (by decide) | exact hasR_of (by assumption) (by decide))); rintro _ rfl; try rw [hL1.n])
        have e16 : nI L.length = (16 : Int32) ↔ L.length = 16 := eI (b := 16) (by omega) (by omega)
        rw [e16]
        refine ⟨fun h16 => ?_, fun h16 => ⟨by omega, by omega, Or.inr (Or.inr ⟨rfl, hasI_of hm1 (by decide), ?_⟩)⟩⟩
        · (refine ⟨?_, ?_⟩; (focus (first | exact hasI_of (by assumption) (by decide) | exact hasR_of (by assumption) (by decide))); rintro _ rfl; try rw [hR1.f.l])
          (refine ⟨?_, ?_⟩; (focus (first | exact hasI_of (by assumption) (by decide) | exact hasR_of (by assumption) (by decide))); rintro _ rfl; try rw [hL1.n])
          refine ⟨_, rfl, ?_⟩
          refine ⟨L.length, ⟨_, h52, rfl, by omega, by decide⟩, ?_⟩
          rintro _ rfl
          refine ⟨hasI_of (k := 6) (n := 6) hm1 (by decide), ?_⟩
          rintro _ rfl
          refine ⟨hasI_of (k := 6) (n := 6) hm1 (by decide), ?_⟩
          rintro _ rfl
          refine ⟨hasI_of (k := 6) (n := 6) hm1 (by decide), ?_⟩
          rintro _ rfl
          have e54 : fI (sI (wI g 56 M.m 0) (M.f 52) L.length (nI e)) 54 M.m + 1 = nI (L.length + 1) := by
            show fI (wI g 56 M.m 0) 54 M.m + 1 = _
            rw [hL1.n, nI_1]
          rw [e54, sI_cI]
          have eq1 : fI (wI (cI (wI g 56 M.m 0) (M.f 52) (fun j => if j = L.length then nI e else aI (wI g 56 M.m 0) (M.f 52) j)) 54 M.m (nI (L.length + 1))) 54 M.m = nI (L.length + 1) := by rw [fI_wI]; simp
          rw [eq1]
          have hR2 := (hR1.cA hw (i := 52) (Or.inl rfl) (fun j => if j = L.length then nI e else aI (wI g 56 M.m 0) (M.f 52) j)).w54 M.m (nI (L.length + 1))
          refine kr e _ hE hnm (by omega) hR2 ?_ (((fM.w56 M g M.m 0).trans (fM.cA (by decide) _)).trans (fM.wIs (by decide))) ?_
          · refine RMi.mk (by rw [eq1, List.length_append]; rfl) (by rw [List.length_append]; simp; omega) (fun q hq => ?_) ?_ (fun i q hq => ?_)
            · rcases List.mem_append.mp hq with h | h
              · exact hL.lt q h
              · rw [List.mem_singleton.mp h]; exact he
            · refine List.nodup_append.mpr ⟨hL.nd, List.nodup_cons.mpr ⟨(fun h => nomatch h), List.nodup_nil⟩, fun a ha b hb h => ?_⟩
              rw [List.mem_singleton.mp hb] at h
              exact hnm (h ▸ ha)
            · show aI (cI (wI g 56 M.m 0) (M.f 52) _) (M.f 52) i = _
              rw [aI_cI]
              by_cases hil : i = L.length
              · subst hil
                rw [List.getElem?_append_right (Nat.le_refl _), Nat.sub_self] at hq
                cases hq
                simp
              · simp only [hil, if_false]
                have hq' : L[i]? = some q := by
                  by_cases hlt : i < L.length
                  · rw [List.getElem?_append_left hlt] at hq; exact hq
                  · rw [List.getElem?_append_right (by omega)] at hq
                    obtain ⟨m, hm⟩ : ∃ m, i - L.length = m + 1 := ⟨i - L.length - 1, by omega⟩
                    rw [hm] at hq
                    cases hq
                exact hL1.at i q hq'
          · rw [fI_wI_ne _ _ _ (by decide)]
            show fI (wI g 56 M.m 0) 56 M.m = 0
            rw [fI_wI]; simp
        · rintro _ rfl
          exact k2 e hE hnm h16
      | succ d ih =>
        intro i hi hno kc ks hk hk'
        have hi' : i < L.length := by omega
        have hg : L[i]? = some L[i] := List.getElem?_eq_getElem hi'
        have hlt := hL.lt _ (List.getElem_mem hi')
        unfold w_M_parent0_25
        (refine ⟨?_, ?_⟩; (focus (first | exact hasI_of (by assumption) (by decide) | exact hasR_of (by assumption) (by decide))); rintro _ rfl; try rw [hL1.n])
        refine ⟨fun h => absurd ((lI (by omega) (by omega)).mp h) (by omega), fun _ => ?_⟩
        (refine ⟨?_, ?_⟩; (focus (first | exact hasI_of (by assumption) (by decide) | exact hasR_of (by assumption) (by decide))); rintro _ rfl; try rw [hR1.f.l])
        refine ⟨_, rfl, ?_⟩
        (refine ⟨i, ⟨_, h52, rfl, by omega, by decide⟩, ?_⟩; rintro _ rfl; try rw [hL1.at i _ hg])
        rw [eI (by omega) (by omega)]
        refine ⟨fun hx => ?_, fun hx => ⟨by omega, by omega, Or.inr (Or.inl ⟨rfl, hasI_of hm1 (by decide), ?_⟩)⟩⟩
        · rw [nI_1]
          refine ih (i + 1) (by omega) (fun j f hj hf hfe => ?_) kc ks hk hk'
          by_cases hji : j = i
          · subst hji
            rw [hg] at hf
            exact hx ((Option.some.inj hf).trans hfe)
          · exact hno j f (by omega) hf hfe
        · rintro _ rfl
          have : e ∈ L := by rw [← hx]; exact List.getElem_mem hi'
          exact k1 e hE this
    exact ⟨_, key L.length 0 (by omega) (fun j f hj => absurd hj (by omega)) _ _ rfl rfl⟩
  · rintro _ rfl
    exact k0 h
end ML
