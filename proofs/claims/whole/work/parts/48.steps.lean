section GS
variable {G : AG} {V : Nat → Nat}
def ug {α : Type} (f : Nat → α) (i : Nat) (v : α) : Nat → α := fun j => if j = i then v else f j
theorem ug_at {α : Type} (f : Nat → α) (i : Nat) (v : α) : ug f i v i = v := by simp [ug]
theorem ug_ne {α : Type} {f : Nat → α} {i j : Nat} {v : α} (h : j ≠ i) : ug f i v j = f j := by simp [ug, h]
def addA (G : AG) (x : Nat) : AG := AG.mk G.ne (G.na + 1) (ug G.nm G.na x) (ug G.ct G.na 0) G.sl G.nu G.ev G.pa G.ins G.cd G.k G.de
def addI (G : AG) (s : Nat) (W : Nat → Nat) (c : Int32) (k2 : Nat → Bool → List Nat) : AG := AG.mk (G.ne + 1) G.na G.nm (ug G.ct s (G.ct s + 1)) (ug G.sl G.ne s) (ug G.nu G.ne (G.ct s)) (fun t n => if t = s ∧ n = G.ct s then G.ne else G.ev t n) (ug G.pa G.ne W) (ug G.ins G.ne true) (ug G.cd G.ne c) k2 G.de
def addD (G : AG) (s : Nat) (W : Nat → Nat) (x : Nat) : AG := AG.mk (G.ne + 1) G.na G.nm (ug G.ct s (G.ct s + 1)) (ug G.sl G.ne s) (ug G.nu G.ne (G.ct s)) (fun t n => if t = s ∧ n = G.ct s then G.ne else G.ev t n) (ug G.pa G.ne W) (ug G.ins G.ne false) G.cd G.k (ug G.de x (G.ne :: G.de x))
theorem k_ev (hw : WF G) {p c : Nat} {b : Bool} (h : c ∈ G.k p b) : c - 1 < G.ne ∧ 0 < c := by
  have h1 := (hw.kin p b c h).2
  have h2 := hw.tr p b c h
  omega
theorem wf_addA (hw : WF G) {x : Nat} (hx : x ≤ 255) (hn : G.na < 16) (hno : ∀ s, s < G.na → G.nm s ≠ x) : WF (addA G x) := by
  have nmo : ∀ s, s < G.na → (addA G x).nm s = G.nm s := fun s hs => ug_ne (by omega)
  have nmn : (addA G x).nm G.na = x := ug_at _ _ _
  have cto : ∀ s, s < G.na → (addA G x).ct s = G.ct s := fun s hs => ug_ne (by omega)
  have ctn : (addA G x).ct G.na = 0 := ug_at _ _ _
  have sp : ∀ s, s < G.na + 1 → s < G.na ∨ s = G.na := fun s hs => by omega
  refine WF.mk hw.ne_le (show G.na + 1 ≤ 16 by omega) (fun s hs => ?_) (fun s t hs ht h => ?_) (fun s hs => ?_) (fun e he => ?_) (fun e he => ?_) hw.ev_of (fun s n hs hn => ?_) (fun s n hs hn => ?_) (fun s n hs hn => ?_) (fun e s he hs => ?_) (fun e s he hs => ?_) hw.pa_own hw.pa_cl hw.tr hw.tr0 hw.nodup hw.mem hw.kin hw.uq hw.up (fun p b => ?_) hw.de_lt hw.de_srt
  · rcases sp s hs with h | rfl
    · rw [nmo s h]; exact hw.nm_le s h
    · rw [nmn]; exact hx
  · rcases sp s hs with h1 | rfl
    · rcases sp t ht with h2 | rfl
      · rw [nmo s h1, nmo t h2] at h; exact hw.nm_inj s t h1 h2 h
      · rw [nmo s h1, nmn] at h; exact absurd h (hno s h1)
    · rcases sp t ht with h2 | rfl
      · rw [nmo t h2, nmn] at h; exact absurd h.symm (hno t h2)
      · rfl
  · rcases sp s hs with h | rfl
    · rw [cto s h]; exact hw.ct_le s h
    · rw [ctn]; exact Nat.zero_le _
  · have := hw.sl_lt e he
    show G.sl e < G.na + 1
    omega
  · have h1 := hw.sl_lt e he
    show G.nu e < (addA G x).ct (G.sl e)
    rw [cto _ h1]; exact hw.nu_lt e he
  · rcases sp s hs with h | rfl
    · rw [cto s h] at hn; exact hw.ev_lt s n h hn
    · rw [ctn] at hn; omega
  · rcases sp s hs with h | rfl
    · rw [cto s h] at hn; exact hw.sl_ev s n h hn
    · rw [ctn] at hn; omega
  · rcases sp s hs with h | rfl
    · rw [cto s h] at hn; exact hw.nu_ev s n h hn
    · rw [ctn] at hn; omega
  · rcases sp s hs with h | rfl
    · rw [cto s h]; exact hw.pa_le e s he h
    · show G.pa e G.na ≤ _
      rw [hw.pa_0 e _ he (Nat.le_refl _)]; exact Nat.zero_le _
  · have hs' : G.na + 1 ≤ s := hs
    exact hw.pa_0 e s he (by omega)
  · refine (hw.srt p b).imp_of_mem (fun {u v} hu hv h => ?_)
    have h1 := hw.sl_lt _ (k_ev hw hu).1
    have h2 := hw.sl_lt _ (k_ev hw hv).1
    show (addA G x).nm (G.sl (u - 1)) < (addA G x).nm (G.sl (v - 1)) ∨ _
    rw [nmo _ h1, nmo _ h2]
    exact h
def okE (G : AG) (s : Nat) (W : Nat → Nat) : Prop := (s < G.na) ∧ (G.ne < 8192) ∧ (W s = G.ct s) ∧ (∀ t, t < G.na → W t ≤ G.ct t) ∧ (∀ t, G.na ≤ t → W t = 0) ∧ (vcl G W)
theorem okE.s {G : AG} {s : Nat} {W : Nat → Nat} (h : okE G s W) : s < G.na := h.1
theorem okE.ne {G : AG} {s : Nat} {W : Nat → Nat} (h : okE G s W) : G.ne < 8192 := h.2.1
theorem okE.own {G : AG} {s : Nat} {W : Nat → Nat} (h : okE G s W) : W s = G.ct s := h.2.2.1
theorem okE.le {G : AG} {s : Nat} {W : Nat → Nat} (h : okE G s W) : ∀ t, t < G.na → W t ≤ G.ct t := h.2.2.2.1
theorem okE.z {G : AG} {s : Nat} {W : Nat → Nat} (h : okE G s W) : ∀ t, G.na ≤ t → W t = 0 := h.2.2.2.2.1
theorem okE.cl {G : AG} {s : Nat} {W : Nat → Nat} (h : okE G s W) : vcl G W := h.2.2.2.2.2
theorem okE.mk {G : AG} {s : Nat} {W : Nat → Nat} (h0 : s < G.na) (h1 : G.ne < 8192) (h2 : W s = G.ct s) (h3 : ∀ t, t < G.na → W t ≤ G.ct t) (h4 : ∀ t, G.na ≤ t → W t = 0) (h5 : vcl G W) : okE G s W := ⟨h0, h1, h2, h3, h4, h5⟩
def evS (G G2 : AG) (s : Nat) (W : Nat → Nat) : Prop := (G2.ne = G.ne + 1) ∧ (G2.na = G.na) ∧ (G2.nm = G.nm) ∧ (G2.ct = ug G.ct s (G.ct s + 1)) ∧ (G2.sl = ug G.sl G.ne s) ∧ (G2.nu = ug G.nu G.ne (G.ct s)) ∧ (G2.ev = fun t n => if t = s ∧ n = G.ct s then G.ne else G.ev t n) ∧ (G2.pa = ug G.pa G.ne W)
theorem evS.ne {G G2 : AG} {s : Nat} {W : Nat → Nat} (h : evS G G2 s W) : G2.ne = G.ne + 1 := h.1
theorem evS.na {G G2 : AG} {s : Nat} {W : Nat → Nat} (h : evS G G2 s W) : G2.na = G.na := h.2.1
theorem evS.nm {G G2 : AG} {s : Nat} {W : Nat → Nat} (h : evS G G2 s W) : G2.nm = G.nm := h.2.2.1
theorem evS.ct {G G2 : AG} {s : Nat} {W : Nat → Nat} (h : evS G G2 s W) : G2.ct = ug G.ct s (G.ct s + 1) := h.2.2.2.1
theorem evS.sl {G G2 : AG} {s : Nat} {W : Nat → Nat} (h : evS G G2 s W) : G2.sl = ug G.sl G.ne s := h.2.2.2.2.1
theorem evS.nu {G G2 : AG} {s : Nat} {W : Nat → Nat} (h : evS G G2 s W) : G2.nu = ug G.nu G.ne (G.ct s) := h.2.2.2.2.2.1
theorem evS.ev {G G2 : AG} {s : Nat} {W : Nat → Nat} (h : evS G G2 s W) : G2.ev = fun t n => if t = s ∧ n = G.ct s then G.ne else G.ev t n := h.2.2.2.2.2.2.1
theorem evS.pa {G G2 : AG} {s : Nat} {W : Nat → Nat} (h : evS G G2 s W) : G2.pa = ug G.pa G.ne W := h.2.2.2.2.2.2.2
theorem evS.mk {G G2 : AG} {s : Nat} {W : Nat → Nat} (h0 : G2.ne = G.ne + 1) (h1 : G2.na = G.na) (h2 : G2.nm = G.nm) (h3 : G2.ct = ug G.ct s (G.ct s + 1)) (h4 : G2.sl = ug G.sl G.ne s) (h5 : G2.nu = ug G.nu G.ne (G.ct s)) (h6 : G2.ev = fun t n => if t = s ∧ n = G.ct s then G.ne else G.ev t n) (h7 : G2.pa = ug G.pa G.ne W) : evS G G2 s W := ⟨h0, h1, h2, h3, h4, h5, h6, h7⟩
theorem evS_I (s : Nat) (W : Nat → Nat) (c : Int32) (k2 : Nat → Bool → List Nat) : evS G (addI G s W c k2) s W := evS.mk rfl rfl rfl rfl rfl rfl rfl rfl
theorem evS_D (s : Nat) (W : Nat → Nat) (x : Nat) : evS G (addD G s W x) s W := evS.mk rfl rfl rfl rfl rfl rfl rfl rfl
theorem evS.kno {G2 : AG} {s : Nat} {W : Nat → Nat} (h : evS G G2 s W) {e : Nat} (he : e < G.ne) (V : Nat → Nat) : kn G2 V e ↔ kn G V e := by
  unfold kn
  rw [h.nu, h.sl, ug_ne (by omega), ug_ne (by omega)]
theorem evS.knn {G2 : AG} {s : Nat} {W : Nat → Nat} (h : evS G G2 s W) (V : Nat → Nat) : kn G2 V G.ne ↔ G.ct s < V s := by
  unfold kn
  rw [h.nu, h.sl, ug_at, ug_at]
theorem evS.lso {G2 : AG} {s : Nat} {W : Nat → Nat} (h : evS G G2 s W) {e f : Nat} (he : e < G.ne) (hf : f < G.ne) : ls G2 e f ↔ ls G e f := by
  unfold ls
  rw [h.nm, h.nu, h.sl, ug_ne (by omega), ug_ne (by omega), ug_ne (by omega), ug_ne (by omega)]
theorem evS.wf {G2 : AG} {s : Nat} {W : Nat → Nat} (h : evS G G2 s W) (hw : WF G) (ok : okE G s W) (tr : tr_ok G2.k 8193) (tr0 : G2.k 0 false = []) (nodup : (od G2).Nodup) (mem : ∀ x, x ∈ od G2 ↔ x = 0 ∨ ∃ e, x = e + 1 ∧ e < G2.ne ∧ G2.ins e = true) (kin : ∀ p b c, c ∈ G2.k p b → p ≤ G2.ne ∧ c ≤ G2.ne) (uq : ∀ p b p' b' c, c ∈ G2.k p b → c ∈ G2.k p' b' → p = p' ∧ b = b')
    (up : ∀ p b c, (c + 1) ∈ G2.k (p + 1) b → kn G2 (G2.pa c) p) (srt : ∀ p b, (G2.k p b).Pairwise (fun x y => ls G2 (x - 1) (y - 1))) (dl : ∀ e d, d ∈ G2.de e → e < G2.ne ∧ d < G2.ne ∧ G2.ins d = false ∧ G2.ins e = true) (ds : ∀ e, (G2.de e).Pairwise (fun x y => y < x)) : WF G2 := by
  have hs := ok.s
  have hne := ok.ne
  have sp : ∀ e, e < G.ne + 1 → e < G.ne ∨ e = G.ne := fun e he => by omega
  have slo : ∀ e, e < G.ne → G2.sl e = G.sl e := fun e he => by rw [h.sl, ug_ne (by omega)]
  have sln : G2.sl G.ne = s := by rw [h.sl, ug_at]
  have nuo : ∀ e, e < G.ne → G2.nu e = G.nu e := fun e he => by rw [h.nu, ug_ne (by omega)]
  have nun : G2.nu G.ne = G.ct s := by rw [h.nu, ug_at]
  have pao : ∀ e, e < G.ne → G2.pa e = G.pa e := fun e he => by rw [h.pa, ug_ne (by omega)]
  have pan : G2.pa G.ne = W := by rw [h.pa, ug_at]
  have cts : G2.ct s = G.ct s + 1 := by rw [h.ct, ug_at]
  have cto : ∀ t, t ≠ s → G2.ct t = G.ct t := fun t ht => by rw [h.ct, ug_ne ht]
  have ctl : ∀ t, G.ct t ≤ G2.ct t := fun t => by
    by_cases ht : t = s
    · rw [ht, cts]; omega
    · rw [cto t ht]; exact Nat.le_refl _
  refine WF.mk (by rw [h.ne]; omega) (by rw [h.na]; exact hw.na_le) (by rw [h.na, h.nm]; exact hw.nm_le) (by rw [h.na, h.nm]; exact hw.nm_inj) (fun t ht => ?_) (fun e he => ?_) (fun e he => ?_) (fun e he => ?_) (fun t n ht hn => ?_) (fun t n ht hn => ?_) (fun t n ht hn => ?_) (fun e t he ht => ?_) (fun e t he ht => ?_) (fun e he => ?_) (fun e he => ?_) tr tr0 nodup mem kin uq up srt dl ds
  · rw [h.na] at ht
    have := hw.ct_le t ht
    rw [h.ne]
    by_cases hts : t = s
    · rw [hts] at this ⊢; rw [cts]; omega
    · rw [cto t hts]; omega
  · rw [h.ne] at he
    rw [h.na]
    rcases sp e he with h1 | rfl
    · rw [slo e h1]; exact hw.sl_lt e h1
    · rw [sln]; exact hs
  · rw [h.ne] at he
    rcases sp e he with h1 | rfl
    · rw [slo e h1, nuo e h1]; exact Nat.lt_of_lt_of_le (hw.nu_lt e h1) (ctl _)
    · rw [sln, nun, cts]; omega
  · rw [h.ne] at he
    rw [h.ev]
    rcases sp e he with h1 | rfl
    · rw [slo e h1, nuo e h1]
      have h2 := hw.nu_lt e h1
      have : ¬ (G.sl e = s ∧ G.nu e = G.ct s) := fun hh => by rw [hh.1] at h2; omega
      simp only [this, if_false]
      exact hw.ev_of e h1
    · rw [sln, nun]; simp
  · rw [h.na] at ht
    rw [h.ev, h.ne]
    by_cases hh : t = s ∧ n = G.ct s
    · simp [hh]
    · simp only [hh, if_false]
      have : n < G.ct t := by
        by_cases hts : t = s
        · rw [hts, cts] at hn
          have : n ≠ G.ct s := fun e => hh ⟨hts, e⟩
          rw [hts]; omega
        · rw [cto t hts] at hn; exact hn
      have := hw.ev_lt t n ht this
      omega
  · rw [h.na] at ht
    rw [h.ev]
    by_cases hh : t = s ∧ n = G.ct s
    · simp only [hh, and_self, if_true]; exact sln
    · simp only [hh, if_false]
      have : n < G.ct t := by
        by_cases hts : t = s
        · rw [hts, cts] at hn
          have : n ≠ G.ct s := fun e => hh ⟨hts, e⟩
          rw [hts]; omega
        · rw [cto t hts] at hn; exact hn
      rw [slo _ (hw.ev_lt t n ht this)]
      exact hw.sl_ev t n ht this
  · rw [h.na] at ht
    rw [h.ev]
    by_cases hh : t = s ∧ n = G.ct s
    · simp only [hh, and_self, if_true]; exact nun
    · simp only [hh, if_false]
      have : n < G.ct t := by
        by_cases hts : t = s
        · rw [hts, cts] at hn
          have : n ≠ G.ct s := fun e => hh ⟨hts, e⟩
          rw [hts]; omega
        · rw [cto t hts] at hn; exact hn
      rw [nuo _ (hw.ev_lt t n ht this)]
      exact hw.nu_ev t n ht this
  · rw [h.ne] at he
    rw [h.na] at ht
    rcases sp e he with h1 | rfl
    · rw [pao e h1]; exact Nat.le_trans (hw.pa_le e t h1 ht) (ctl t)
    · rw [pan]; exact Nat.le_trans (ok.le t ht) (ctl t)
  · rw [h.ne] at he
    rw [h.na] at ht
    rcases sp e he with h1 | rfl
    · rw [pao e h1]; exact hw.pa_0 e t h1 ht
    · rw [pan]; exact ok.z t ht
  · rw [h.ne] at he
    rcases sp e he with h1 | rfl
    · rw [pao e h1, slo e h1, nuo e h1]; exact hw.pa_own e h1
    · rw [pan, sln, nun]; exact ok.own
  · rw [h.ne] at he
    intro f hf hk t
    rw [h.ne] at hf
    rcases sp e he with h1 | rfl
    · rw [pao e h1] at hk ⊢
      rcases sp f hf with h2 | rfl
      · rw [pao f h2]; exact hw.pa_cl e h1 f h2 ((h.kno h2 _).mp hk) t
      · have := (h.knn _).mp hk
        have := hw.pa_le e s h1 hs
        omega
    · rw [pan] at hk ⊢
      rcases sp f hf with h2 | rfl
      · rw [pao f h2]; exact ok.cl f h2 ((h.kno h2 _).mp hk) t
      · have := (h.knn _).mp hk
        have := ok.own
        omega
theorem evS.okN {G2 : AG} {s : Nat} {W : Nat → Nat} (h : evS G G2 s W) (hw : WF G) (ok : okE G s W) (hne : G.ne + 1 < 8192) : okE G2 s (ug W s (G.ct s + 1)) := by
  have hs := ok.s
  refine okE.mk (by rw [h.na]; exact hs) (by rw [h.ne]; exact hne) (by rw [ug_at, h.ct, ug_at]) (fun t ht => ?_) (fun t ht => ?_) (fun f hf hk t => ?_)
  · rw [h.na] at ht
    rw [h.ct]
    by_cases hts : t = s
    · rw [hts, ug_at, ug_at]; exact Nat.le_refl _
    · rw [ug_ne hts, ug_ne hts]; exact ok.le t ht
  · rw [h.na] at ht
    rw [ug_ne (by omega)]; exact ok.z t ht
  · have hle : ∀ t, W t ≤ ug W s (G.ct s + 1) t := fun t => by
      by_cases hts : t = s
      · rw [hts, ug_at, ok.own]; omega
      · rw [ug_ne hts]; exact Nat.le_refl _
    rw [h.ne] at hf
    have : f < G.ne ∨ f = G.ne := by omega
    rcases this with h2 | rfl
    · have hk' := (h.kno h2 _).mp hk
      have hkW : kn G W f := by
        unfold kn at hk' ⊢
        by_cases hfs : G.sl f = s
        · have := hw.nu_lt f h2
          rw [hfs] at this ⊢
          rw [ok.own]; exact this
        · rw [ug_ne hfs] at hk'; exact hk'
      rw [h.pa, ug_ne (by omega)]
      exact Nat.le_trans (ok.cl f h2 hkW t) (hle t)
    · rw [h.pa, ug_at]; exact hle t
theorem wf_addD (hw : WF G) {s : Nat} {W : Nat → Nat} (ok : okE G s W) {x : Nat} (hx : x < G.ne) (hi : G.ins x = true) : WF (addD G s W x) := by
  have hne := ok.ne
  have h := evS_D (G := G) s W x
  have inso : ∀ e, e < G.ne → (addD G s W x).ins e = G.ins e := fun e he => ug_ne (by omega)
  have insn : (addD G s W x).ins G.ne = false := ug_at _ _ _
  refine h.wf hw ok hw.tr hw.tr0 hw.nodup (fun y => ?_) (fun p b c hc => ?_) hw.uq (fun p b c hc => ?_) (fun p b => ?_) (fun e d hd => ?_) (fun e => ?_)
  · show y ∈ od G ↔ _
    rw [hw.mem y]
    refine or_congr Iff.rfl ⟨fun ⟨e, h1, h2, h3⟩ => ⟨e, h1, by show e < G.ne + 1; omega, by rw [inso e h2]; exact h3⟩, fun ⟨e, h1, h2, h3⟩ => ?_⟩
    have h2' : e < G.ne + 1 := h2
    have : e < G.ne ∨ e = G.ne := by omega
    rcases this with h4 | rfl
    · rw [inso e h4] at h3; exact ⟨e, h1, h4, h3⟩
    · rw [insn] at h3; cases h3
  · have := hw.kin p b c hc
    exact ⟨by show p ≤ G.ne + 1; omega, by show c ≤ G.ne + 1; omega⟩
  · have h1 := k_ev hw hc
    have h2 := hw.kin _ _ _ hc
    have h3 : c < G.ne := h1.1
    rw [h.kno (by omega)]
    show kn G (ug G.pa G.ne W c) p
    rw [ug_ne (by omega)]
    exact hw.up p b c hc
  · refine (hw.srt p b).imp_of_mem (fun {u v} hu hv hh => ?_)
    rw [h.lso (k_ev hw hu).1 (k_ev hw hv).1]
    exact hh
  · have hd' : d ∈ ug G.de x (G.ne :: G.de x) e := hd
    show e < G.ne + 1 ∧ d < G.ne + 1 ∧ _
    by_cases hex : e = x
    · subst hex
      rw [ug_at] at hd'
      rcases List.mem_cons.mp hd' with rfl | hm
      · exact ⟨by omega, by omega, insn, by rw [inso e hx]; exact hi⟩
      · obtain ⟨q1, q2, q3, q4⟩ := hw.de_lt e d hm
        exact ⟨by omega, by omega, by rw [inso d q2]; exact q3, by rw [inso e q1]; exact q4⟩
    · rw [ug_ne hex] at hd'
      obtain ⟨q1, q2, q3, q4⟩ := hw.de_lt e d hd'
      exact ⟨by omega, by omega, by rw [inso d q2]; exact q3, by rw [inso e q1]; exact q4⟩
  · show (ug G.de x (G.ne :: G.de x) e).Pairwise _
    by_cases hex : e = x
    · subst hex
      rw [ug_at, List.pairwise_cons]
      exact ⟨fun d hd => (hw.de_lt e d hd).2.1, hw.de_srt e⟩
    · rw [ug_ne hex]; exact hw.de_srt e
theorem wf_addI (hw : WF G) {s : Nat} {W : Nat → Nat} (ok : okE G s W) {c : Int32} {p : Nat} {b : Bool} {l1 l2 : List Nat} (hp : p ∈ od G) (hpb : p = 0 → b = true) (hpk : p ≠ 0 → kn G W (p - 1)) (hl : G.k p b = l1 ++ l2) (h1 : ∀ y ∈ l1, lf G s (y - 1)) (h2 : ∀ y ∈ l2, ¬ lf G s (y - 1)) : WF (addI G s W c (tr_put G.k p b (l1 ++ (G.ne + 1) :: l2))) := by
  have hne := ok.ne
  have hpe := od_le hw hp
  have h := evS_I (G := G) s W c (tr_put G.k p b (l1 ++ (G.ne + 1) :: l2))
  have inso : ∀ e, e < G.ne → (addI G s W c (tr_put G.k p b (l1 ++ (G.ne + 1) :: l2))).ins e = G.ins e := fun e he => ug_ne (by omega)
  have insn : (addI G s W c (tr_put G.k p b (l1 ++ (G.ne + 1) :: l2))).ins G.ne = true := ug_at _ _ _
  obtain ⟨a1, a2, o1, o2⟩ : ∃ a1 a2, od G = a1 ++ a2 ∧ tr_S (tr_put G.k p b (l1 ++ (G.ne + 1) :: l2)) 8193 0 = a1 ++ (G.ne + 1) :: a2 := by
    cases b with
    | true => obtain ⟨u, v, q1, q2⟩ := pl_R hw hne hp hl; exact ⟨_, _, q1, q2⟩
    | false => obtain ⟨u, v, q1, q2⟩ := pl_L hw hne hp hl; exact ⟨_, _, q1, q2⟩
  have hEn : G.ne + 1 ∉ od G := fun hm => by have := od_le hw hm; omega
  have km : ∀ q d y, y ∈ tr_put G.k p b (l1 ++ (G.ne + 1) :: l2) q d → y ∈ G.k q d ∨ (y = G.ne + 1 ∧ q = p ∧ d = b) := fun q d y hy => by
    by_cases hq : q = p ∧ d = b
    · obtain ⟨rfl, rfl⟩ := hq
      rw [tr_put_at] at hy
      rw [hl]
      rcases List.mem_append.mp hy with hy | hy
      · exact Or.inl (List.mem_append_left _ hy)
      · rcases List.mem_cons.mp hy with hy | hy
        · exact Or.inr ⟨hy, rfl, rfl⟩
        · exact Or.inl (List.mem_append_right _ hy)
    · have : tr_put G.k p b (l1 ++ (G.ne + 1) :: l2) q d = G.k q d := by simp [tr_put, hq]
      rw [this] at hy
      exact Or.inl hy
  refine h.wf hw ok (tr_put_ok hw.tr hl (by omega) (by omega)) ?_ ?_ (fun y => ?_) (fun q d y hy => ?_) (fun q d q' d' y hy hy' => ?_) (fun q d y hy => ?_) (fun q d => ?_) (fun e d hd => ?_) hw.de_srt
  · show tr_put G.k p b (l1 ++ (G.ne + 1) :: l2) 0 false = []
    by_cases hq : (0 : Nat) = p ∧ false = b
    · have := hpb hq.1.symm
      rw [this] at hq
      exact absurd hq.2 (by decide)
    · have : tr_put G.k p b (l1 ++ (G.ne + 1) :: l2) 0 false = G.k 0 false := if_neg hq
      rw [this]; exact hw.tr0
  · show (tr_S (tr_put G.k p b (l1 ++ (G.ne + 1) :: l2)) 8193 0).Nodup
    rw [o2]
    have hn := hw.nodup
    rw [o1] at hn hEn
    have hn' := List.nodup_append.mp hn
    refine List.nodup_append.mpr ⟨hn'.1, List.nodup_cons.mpr ⟨fun hm => hEn (List.mem_append_right _ hm), hn'.2.1⟩, fun q hq q' hq' e => ?_⟩
    rcases List.mem_cons.mp hq' with hq' | hq'
    · exact hEn (by rw [← hq', ← e]; exact List.mem_append_left _ hq)
    · exact hn'.2.2 q hq q' hq' e
  · show y ∈ tr_S (tr_put G.k p b (l1 ++ (G.ne + 1) :: l2)) 8193 0 ↔ _
    have hiff : y ∈ tr_S (tr_put G.k p b (l1 ++ (G.ne + 1) :: l2)) 8193 0 ↔ y = G.ne + 1 ∨ y ∈ od G := by
      rw [o2, o1]; simp only [List.mem_append, List.mem_cons]
      constructor
      · rintro (h | h | h)
        · exact Or.inr (Or.inl h)
        · exact Or.inl h
        · exact Or.inr (Or.inr h)
      · rintro (h | h | h)
        · exact Or.inr (Or.inl h)
        · exact Or.inl h
        · exact Or.inr (Or.inr h)
    rw [hiff, hw.mem y]
    constructor
    · rintro (rfl | rfl | ⟨e, rfl, q1, q2⟩)
      · exact Or.inr ⟨G.ne, rfl, by show G.ne < G.ne + 1; omega, insn⟩
      · exact Or.inl rfl
      · exact Or.inr ⟨e, rfl, by show e < G.ne + 1; omega, by rw [inso e q1]; exact q2⟩
    · rintro (rfl | ⟨e, rfl, q1, q2⟩)
      · exact Or.inr (Or.inl rfl)
      · have q1' : e < G.ne + 1 := q1
        have : e < G.ne ∨ e = G.ne := by omega
        rcases this with q3 | rfl
        · rw [inso e q3] at q2; exact Or.inr (Or.inr ⟨e, rfl, q3, q2⟩)
        · exact Or.inl rfl
  · show q ≤ G.ne + 1 ∧ y ≤ G.ne + 1
    rcases km q d y hy with hm | ⟨rfl, rfl, rfl⟩
    · have := hw.kin _ _ _ hm; omega
    · omega
  · rcases km q d y hy with hm | ⟨rfl, rfl, rfl⟩
    · rcases km q' d' y hy' with hm' | ⟨rfl, rfl, rfl⟩
      · exact hw.uq _ _ _ _ _ hm hm'
      · have := hw.kin _ _ _ hm; omega
    · rcases km q' d' _ hy' with hm' | ⟨-, rfl, rfl⟩
      · have := hw.kin _ _ _ hm'; omega
      · exact ⟨rfl, rfl⟩
  · rcases km (q + 1) d (y + 1) hy with hm | ⟨e1, e2, e3⟩
    · have h3 : y < G.ne := (k_ev hw hm).1
      have h4 := hw.kin _ _ _ hm
      rw [h.kno (by omega)]
      show kn G (ug G.pa G.ne W y) q
      rw [ug_ne (by omega)]
      exact hw.up q d y hm
    · have : y = G.ne := by omega
      subst this
      rw [h.kno (by omega)]
      show kn G (ug G.pa G.ne W G.ne) q
      rw [ug_at]
      have := hpk (by omega)
      rw [← e2] at this
      exact this
  · show (tr_put G.k p b (l1 ++ (G.ne + 1) :: l2) q d).Pairwise _
    by_cases hq : q = p ∧ d = b
    · obtain ⟨rfl, rfl⟩ := hq
      rw [tr_put_at]
      have hs := hw.srt q d
      rw [hl] at hs
      have hev : ∀ y ∈ l1 ++ l2, y - 1 < G.ne := fun y hy => (k_ev hw (by rw [hl]; exact hy)).1
      have hs' := List.pairwise_append.mp hs
      refine List.pairwise_append.mpr ⟨?_, List.pairwise_cons.mpr ⟨fun y hy => ?_, ?_⟩, fun x hx y hy => ?_⟩
      · exact hs'.1.imp_of_mem (fun {u v} hu hv hh => (h.lso (hev u (List.mem_append_left _ hu)) (hev v (List.mem_append_left _ hv))).mpr hh)
      · have hy' := hev y (List.mem_append_right _ hy)
        have hn := h2 y hy
        unfold lf at hn
        show ls _ (G.ne + 1 - 1) (y - 1)
        unfold ls
        rw [h.nm, h.sl, Nat.add_sub_cancel, ug_at, ug_ne (by omega)]
        have hne' : G.nm (G.sl (y - 1)) ≠ G.nm s := fun e => hn (Or.inr (hw.nm_inj _ _ (hw.sl_lt _ hy') ok.s e))
        exact Or.inl (by omega)
      · exact hs'.2.1.imp_of_mem (fun {u v} hu hv hh => (h.lso (hev u (List.mem_append_right _ hu)) (hev v (List.mem_append_right _ hv))).mpr hh)
      · have hx' := hev x (List.mem_append_left _ hx)
        rcases List.mem_cons.mp hy with rfl | hy
        · have hn := h1 x hx
          show ls _ (x - 1) (G.ne + 1 - 1)
          unfold ls
          rw [h.nm, h.sl, h.nu, Nat.add_sub_cancel, ug_at, ug_ne (by omega), ug_ne (by omega), ug_at]
          rcases hn with hn | hn
          · exact Or.inl hn
          · have := hw.nu_lt _ hx'
            rw [hn] at this
            exact Or.inr ⟨hn, this⟩
        · exact (h.lso hx' (hev y (List.mem_append_right _ hy))).mpr (hs'.2.2 x hx y hy)
    · have he : tr_put G.k p b (l1 ++ (G.ne + 1) :: l2) q d = G.k q d := by simp [tr_put, hq]
      rw [he]
      refine (hw.srt q d).imp_of_mem (fun {u v} hu hv hh => ?_)
      rw [h.lso (k_ev hw hu).1 (k_ev hw hv).1]
      exact hh
  · obtain ⟨q1, q2, q3, q4⟩ := hw.de_lt e d hd
    exact ⟨by show e < G.ne + 1; omega, by show d < G.ne + 1; omega, by rw [inso d q2]; exact q3, by rw [inso e q1]; exact q4⟩
theorem split_ex (hw : WF G) (s p : Nat) (b : Bool) : ∃ l1 l2, G.k p b = l1 ++ l2 ∧ (∀ y ∈ l1, lf G s (y - 1)) ∧ (∀ y ∈ l2, ¬ lf G s (y - 1)) := by
  have key : ∀ l : List Nat, l.Pairwise (fun x y => ls G (x - 1) (y - 1)) → ∃ l1 l2, l = l1 ++ l2 ∧ (∀ y ∈ l1, lf G s (y - 1)) ∧ (∀ y ∈ l2, ¬ lf G s (y - 1)) := by
    intro l
    induction l with
    | nil => intro _; exact ⟨[], [], rfl, (fun _ h => nomatch h), (fun _ h => nomatch h)⟩
    | cons x l ih =>
      intro h
      have h' := List.pairwise_cons.mp h
      by_cases hx : lf G s (x - 1)
      · obtain ⟨l1, l2, e, q1, q2⟩ := ih h'.2
        refine ⟨x :: l1, l2, by rw [e]; rfl, fun y hy => ?_, q2⟩
        rcases List.mem_cons.mp hy with rfl | hy
        · exact hx
        · exact q1 y hy
      · refine ⟨[], x :: l, rfl, (fun _ h => nomatch h), fun y hy hlf => ?_⟩
        rcases List.mem_cons.mp hy with rfl | hy
        · exact hx hlf
        · have hxy := h'.1 y hy
          apply hx
          unfold lf at hlf ⊢
          rcases hxy with q | ⟨q, -⟩
          · rcases hlf with r | r
            · exact Or.inl (by omega)
            · rw [r] at q; exact Or.inl q
          · rw [q]; exact hlf
  exact key _ (hw.srt p b)
theorem split_uq {P : Nat → Prop} : ∀ {l1 l2 m1 m2 : List Nat}, l1 ++ l2 = m1 ++ m2 → (∀ y ∈ l1, P y) → (∀ y ∈ l2, ¬ P y) → (∀ y ∈ m1, P y) → (∀ y ∈ m2, ¬ P y) → l1 = m1 ∧ l2 = m2 := by
  intro l1
  induction l1 with
  | nil =>
    intro l2 m1 m2 h _ h2 h3 _
    cases m1 with
    | nil => exact ⟨rfl, h⟩
    | cons a m1 =>
      rw [List.nil_append, List.cons_append] at h
      exact absurd (h3 a List.mem_cons_self) (h2 a (by rw [h]; exact List.mem_cons_self))
  | cons x l1 ih =>
    intro l2 m1 m2 h h1 h2 h3 h4
    cases m1 with
    | nil =>
      rw [List.nil_append, List.cons_append] at h
      exact absurd (h1 x List.mem_cons_self) (h4 x (by rw [← h]; exact List.mem_cons_self))
    | cons a m1 =>
      rw [List.cons_append, List.cons_append, List.cons.injEq] at h
      obtain ⟨q1, q2⟩ := ih h.2 (fun y hy => h1 y (List.mem_cons_of_mem _ hy)) h2 (fun y hy => h3 y (List.mem_cons_of_mem _ hy)) h4
      exact ⟨by rw [h.1, q1], q2⟩
end GS
