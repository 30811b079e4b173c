def AG : Type := (Nat) × (Nat) × (Nat → Nat) × (Nat → Nat) × (Nat → Nat) × (Nat → Nat) × (Nat → Nat → Nat) × (Nat → Nat → Nat) × (Nat → Bool) × (Nat → Int32) × (Nat → Bool → List Nat) × (Nat → List Nat)
def AG.ne (x : AG) : Nat := x.1
def AG.na (x : AG) : Nat := x.2.1
def AG.nm (x : AG) : Nat → Nat := x.2.2.1
def AG.ct (x : AG) : Nat → Nat := x.2.2.2.1
def AG.sl (x : AG) : Nat → Nat := x.2.2.2.2.1
def AG.nu (x : AG) : Nat → Nat := x.2.2.2.2.2.1
def AG.ev (x : AG) : Nat → Nat → Nat := x.2.2.2.2.2.2.1
def AG.pa (x : AG) : Nat → Nat → Nat := x.2.2.2.2.2.2.2.1
def AG.ins (x : AG) : Nat → Bool := x.2.2.2.2.2.2.2.2.1
def AG.cd (x : AG) : Nat → Int32 := x.2.2.2.2.2.2.2.2.2.1
def AG.k (x : AG) : Nat → Bool → List Nat := x.2.2.2.2.2.2.2.2.2.2.1
def AG.de (x : AG) : Nat → List Nat := x.2.2.2.2.2.2.2.2.2.2.2
def AG.mk (ne : Nat) (na : Nat) (nm : Nat → Nat) (ct : Nat → Nat) (sl : Nat → Nat) (nu : Nat → Nat) (ev : Nat → Nat → Nat) (pa : Nat → Nat → Nat) (ins : Nat → Bool) (cd : Nat → Int32) (k : Nat → Bool → List Nat) (de : Nat → List Nat) : AG := (ne, na, nm, ct, sl, nu, ev, pa, ins, cd, k, de)
theorem AG.ne_mk {v0 : Nat} {v1 : Nat} {v2 : Nat → Nat} {v3 : Nat → Nat} {v4 : Nat → Nat} {v5 : Nat → Nat} {v6 : Nat → Nat → Nat} {v7 : Nat → Nat → Nat} {v8 : Nat → Bool} {v9 : Nat → Int32} {v10 : Nat → Bool → List Nat} {v11 : Nat → List Nat} : (AG.mk v0 v1 v2 v3 v4 v5 v6 v7 v8 v9 v10 v11).ne = v0 := rfl
theorem AG.na_mk {v0 : Nat} {v1 : Nat} {v2 : Nat → Nat} {v3 : Nat → Nat} {v4 : Nat → Nat} {v5 : Nat → Nat} {v6 : Nat → Nat → Nat} {v7 : Nat → Nat → Nat} {v8 : Nat → Bool} {v9 : Nat → Int32} {v10 : Nat → Bool → List Nat} {v11 : Nat → List Nat} : (AG.mk v0 v1 v2 v3 v4 v5 v6 v7 v8 v9 v10 v11).na = v1 := rfl
theorem AG.nm_mk {v0 : Nat} {v1 : Nat} {v2 : Nat → Nat} {v3 : Nat → Nat} {v4 : Nat → Nat} {v5 : Nat → Nat} {v6 : Nat → Nat → Nat} {v7 : Nat → Nat → Nat} {v8 : Nat → Bool} {v9 : Nat → Int32} {v10 : Nat → Bool → List Nat} {v11 : Nat → List Nat} : (AG.mk v0 v1 v2 v3 v4 v5 v6 v7 v8 v9 v10 v11).nm = v2 := rfl
theorem AG.ct_mk {v0 : Nat} {v1 : Nat} {v2 : Nat → Nat} {v3 : Nat → Nat} {v4 : Nat → Nat} {v5 : Nat → Nat} {v6 : Nat → Nat → Nat} {v7 : Nat → Nat → Nat} {v8 : Nat → Bool} {v9 : Nat → Int32} {v10 : Nat → Bool → List Nat} {v11 : Nat → List Nat} : (AG.mk v0 v1 v2 v3 v4 v5 v6 v7 v8 v9 v10 v11).ct = v3 := rfl
theorem AG.sl_mk {v0 : Nat} {v1 : Nat} {v2 : Nat → Nat} {v3 : Nat → Nat} {v4 : Nat → Nat} {v5 : Nat → Nat} {v6 : Nat → Nat → Nat} {v7 : Nat → Nat → Nat} {v8 : Nat → Bool} {v9 : Nat → Int32} {v10 : Nat → Bool → List Nat} {v11 : Nat → List Nat} : (AG.mk v0 v1 v2 v3 v4 v5 v6 v7 v8 v9 v10 v11).sl = v4 := rfl
theorem AG.nu_mk {v0 : Nat} {v1 : Nat} {v2 : Nat → Nat} {v3 : Nat → Nat} {v4 : Nat → Nat} {v5 : Nat → Nat} {v6 : Nat → Nat → Nat} {v7 : Nat → Nat → Nat} {v8 : Nat → Bool} {v9 : Nat → Int32} {v10 : Nat → Bool → List Nat} {v11 : Nat → List Nat} : (AG.mk v0 v1 v2 v3 v4 v5 v6 v7 v8 v9 v10 v11).nu = v5 := rfl
theorem AG.ev_mk {v0 : Nat} {v1 : Nat} {v2 : Nat → Nat} {v3 : Nat → Nat} {v4 : Nat → Nat} {v5 : Nat → Nat} {v6 : Nat → Nat → Nat} {v7 : Nat → Nat → Nat} {v8 : Nat → Bool} {v9 : Nat → Int32} {v10 : Nat → Bool → List Nat} {v11 : Nat → List Nat} : (AG.mk v0 v1 v2 v3 v4 v5 v6 v7 v8 v9 v10 v11).ev = v6 := rfl
theorem AG.pa_mk {v0 : Nat} {v1 : Nat} {v2 : Nat → Nat} {v3 : Nat → Nat} {v4 : Nat → Nat} {v5 : Nat → Nat} {v6 : Nat → Nat → Nat} {v7 : Nat → Nat → Nat} {v8 : Nat → Bool} {v9 : Nat → Int32} {v10 : Nat → Bool → List Nat} {v11 : Nat → List Nat} : (AG.mk v0 v1 v2 v3 v4 v5 v6 v7 v8 v9 v10 v11).pa = v7 := rfl
theorem AG.ins_mk {v0 : Nat} {v1 : Nat} {v2 : Nat → Nat} {v3 : Nat → Nat} {v4 : Nat → Nat} {v5 : Nat → Nat} {v6 : Nat → Nat → Nat} {v7 : Nat → Nat → Nat} {v8 : Nat → Bool} {v9 : Nat → Int32} {v10 : Nat → Bool → List Nat} {v11 : Nat → List Nat} : (AG.mk v0 v1 v2 v3 v4 v5 v6 v7 v8 v9 v10 v11).ins = v8 := rfl
theorem AG.cd_mk {v0 : Nat} {v1 : Nat} {v2 : Nat → Nat} {v3 : Nat → Nat} {v4 : Nat → Nat} {v5 : Nat → Nat} {v6 : Nat → Nat → Nat} {v7 : Nat → Nat → Nat} {v8 : Nat → Bool} {v9 : Nat → Int32} {v10 : Nat → Bool → List Nat} {v11 : Nat → List Nat} : (AG.mk v0 v1 v2 v3 v4 v5 v6 v7 v8 v9 v10 v11).cd = v9 := rfl
theorem AG.k_mk {v0 : Nat} {v1 : Nat} {v2 : Nat → Nat} {v3 : Nat → Nat} {v4 : Nat → Nat} {v5 : Nat → Nat} {v6 : Nat → Nat → Nat} {v7 : Nat → Nat → Nat} {v8 : Nat → Bool} {v9 : Nat → Int32} {v10 : Nat → Bool → List Nat} {v11 : Nat → List Nat} : (AG.mk v0 v1 v2 v3 v4 v5 v6 v7 v8 v9 v10 v11).k = v10 := rfl
theorem AG.de_mk {v0 : Nat} {v1 : Nat} {v2 : Nat → Nat} {v3 : Nat → Nat} {v4 : Nat → Nat} {v5 : Nat → Nat} {v6 : Nat → Nat → Nat} {v7 : Nat → Nat → Nat} {v8 : Nat → Bool} {v9 : Nat → Int32} {v10 : Nat → Bool → List Nat} {v11 : Nat → List Nat} : (AG.mk v0 v1 v2 v3 v4 v5 v6 v7 v8 v9 v10 v11).de = v11 := rfl
abbrev kn (G : AG) (V : Nat → Nat) (e : Nat) : Prop := G.nu e < V (G.sl e)
abbrev sn (G : AG) (V : Nat → Nat) (e : Nat) : Prop := kn G V e ∧ ∀ d ∈ G.de e, ¬ kn G V d
abbrev ls (G : AG) (e f : Nat) : Prop := G.nm (G.sl e) < G.nm (G.sl f) ∨ (G.sl e = G.sl f ∧ G.nu e < G.nu f)
def vcl (G : AG) (V : Nat → Nat) : Prop := ∀ e, e < G.ne → kn G V e → ∀ t, G.pa e t ≤ V t
def od (G : AG) : List Nat := tr_S G.k 8193 0
abbrev st (G : AG) (n e : Nat) : Prop := e < n ∧ ∀ d ∈ G.de e, ¬ d < n
def WF (G : AG) : Prop := (G.ne ≤ 8192) ∧ (G.na ≤ 16) ∧ (∀ s, s < G.na → G.nm s ≤ 255) ∧ (∀ s t, s < G.na → t < G.na → G.nm s = G.nm t → s = t) ∧ (∀ s, s < G.na → G.ct s ≤ G.ne) ∧ (∀ e, e < G.ne → G.sl e < G.na) ∧ (∀ e, e < G.ne → G.nu e < G.ct (G.sl e)) ∧ (∀ e, e < G.ne → G.ev (G.sl e) (G.nu e) = e) ∧ (∀ s n, s < G.na → n < G.ct s → G.ev s n < G.ne) ∧ (∀ s n, s < G.na → n < G.ct s → G.sl (G.ev s n) = s) ∧ (∀ s n, s < G.na → n < G.ct s → G.nu (G.ev s n) = n) ∧ (∀ e s, e < G.ne → s < G.na → G.pa e s ≤ G.ct s) ∧ (∀ e s, e < G.ne → G.na ≤ s → G.pa e s = 0) ∧ (∀ e, e < G.ne → G.pa e (G.sl e) = G.nu e) ∧ (∀ e, e < G.ne → vcl G (G.pa e)) ∧ (tr_ok G.k 8193) ∧ (G.k 0 false = []) ∧ ((od G).Nodup) ∧ (∀ x, x ∈ od G ↔ x = 0 ∨ ∃ e, x = e + 1 ∧ e < G.ne ∧ G.ins e = true) ∧ (∀ p b c, c ∈ G.k p b → p ≤ G.ne ∧ c ≤ G.ne) ∧ (∀ p b p' b' c, c ∈ G.k p b → c ∈ G.k p' b' → p = p' ∧ b = b') ∧ (∀ p b c, (c + 1) ∈ G.k (p + 1) b → kn G (G.pa c) p) ∧ (∀ p b, (G.k p b).Pairwise (fun x y => ls G (x - 1) (y - 1))) ∧ (∀ e d, d ∈ G.de e → e < G.ne ∧ d < G.ne ∧ G.ins d = false ∧ G.ins e = true) ∧ (∀ e, (G.de e).Pairwise (fun x y => y < x))
theorem WF.ne_le {G : AG} (h : WF G) : G.ne ≤ 8192 := h.1
theorem WF.na_le {G : AG} (h : WF G) : G.na ≤ 16 := h.2.1
theorem WF.nm_le {G : AG} (h : WF G) : ∀ s, s < G.na → G.nm s ≤ 255 := h.2.2.1
theorem WF.nm_inj {G : AG} (h : WF G) : ∀ s t, s < G.na → t < G.na → G.nm s = G.nm t → s = t := h.2.2.2.1
theorem WF.ct_le {G : AG} (h : WF G) : ∀ s, s < G.na → G.ct s ≤ G.ne := h.2.2.2.2.1
theorem WF.sl_lt {G : AG} (h : WF G) : ∀ e, e < G.ne → G.sl e < G.na := h.2.2.2.2.2.1
theorem WF.nu_lt {G : AG} (h : WF G) : ∀ e, e < G.ne → G.nu e < G.ct (G.sl e) := h.2.2.2.2.2.2.1
theorem WF.ev_of {G : AG} (h : WF G) : ∀ e, e < G.ne → G.ev (G.sl e) (G.nu e) = e := h.2.2.2.2.2.2.2.1
theorem WF.ev_lt {G : AG} (h : WF G) : ∀ s n, s < G.na → n < G.ct s → G.ev s n < G.ne := h.2.2.2.2.2.2.2.2.1
theorem WF.sl_ev {G : AG} (h : WF G) : ∀ s n, s < G.na → n < G.ct s → G.sl (G.ev s n) = s := h.2.2.2.2.2.2.2.2.2.1
theorem WF.nu_ev {G : AG} (h : WF G) : ∀ s n, s < G.na → n < G.ct s → G.nu (G.ev s n) = n := h.2.2.2.2.2.2.2.2.2.2.1
theorem WF.pa_le {G : AG} (h : WF G) : ∀ e s, e < G.ne → s < G.na → G.pa e s ≤ G.ct s := h.2.2.2.2.2.2.2.2.2.2.2.1
theorem WF.pa_0 {G : AG} (h : WF G) : ∀ e s, e < G.ne → G.na ≤ s → G.pa e s = 0 := h.2.2.2.2.2.2.2.2.2.2.2.2.1
theorem WF.pa_own {G : AG} (h : WF G) : ∀ e, e < G.ne → G.pa e (G.sl e) = G.nu e := h.2.2.2.2.2.2.2.2.2.2.2.2.2.1
theorem WF.pa_cl {G : AG} (h : WF G) : ∀ e, e < G.ne → vcl G (G.pa e) := h.2.2.2.2.2.2.2.2.2.2.2.2.2.2.1
theorem WF.tr {G : AG} (h : WF G) : tr_ok G.k 8193 := h.2.2.2.2.2.2.2.2.2.2.2.2.2.2.2.1
theorem WF.tr0 {G : AG} (h : WF G) : G.k 0 false = [] := h.2.2.2.2.2.2.2.2.2.2.2.2.2.2.2.2.1
theorem WF.nodup {G : AG} (h : WF G) : (od G).Nodup := h.2.2.2.2.2.2.2.2.2.2.2.2.2.2.2.2.2.1
theorem WF.mem {G : AG} (h : WF G) : ∀ x, x ∈ od G ↔ x = 0 ∨ ∃ e, x = e + 1 ∧ e < G.ne ∧ G.ins e = true := h.2.2.2.2.2.2.2.2.2.2.2.2.2.2.2.2.2.2.1
theorem WF.kin {G : AG} (h : WF G) : ∀ p b c, c ∈ G.k p b → p ≤ G.ne ∧ c ≤ G.ne := h.2.2.2.2.2.2.2.2.2.2.2.2.2.2.2.2.2.2.2.1
theorem WF.uq {G : AG} (h : WF G) : ∀ p b p' b' c, c ∈ G.k p b → c ∈ G.k p' b' → p = p' ∧ b = b' := h.2.2.2.2.2.2.2.2.2.2.2.2.2.2.2.2.2.2.2.2.1
theorem WF.up {G : AG} (h : WF G) : ∀ p b c, (c + 1) ∈ G.k (p + 1) b → kn G (G.pa c) p := h.2.2.2.2.2.2.2.2.2.2.2.2.2.2.2.2.2.2.2.2.2.1
theorem WF.srt {G : AG} (h : WF G) : ∀ p b, (G.k p b).Pairwise (fun x y => ls G (x - 1) (y - 1)) := h.2.2.2.2.2.2.2.2.2.2.2.2.2.2.2.2.2.2.2.2.2.2.1
theorem WF.de_lt {G : AG} (h : WF G) : ∀ e d, d ∈ G.de e → e < G.ne ∧ d < G.ne ∧ G.ins d = false ∧ G.ins e = true := h.2.2.2.2.2.2.2.2.2.2.2.2.2.2.2.2.2.2.2.2.2.2.2.1
theorem WF.de_srt {G : AG} (h : WF G) : ∀ e, (G.de e).Pairwise (fun x y => y < x) := h.2.2.2.2.2.2.2.2.2.2.2.2.2.2.2.2.2.2.2.2.2.2.2.2
theorem WF.mk {G : AG} (h0 : G.ne ≤ 8192) (h1 : G.na ≤ 16) (h2 : ∀ s, s < G.na → G.nm s ≤ 255) (h3 : ∀ s t, s < G.na → t < G.na → G.nm s = G.nm t → s = t) (h4 : ∀ s, s < G.na → G.ct s ≤ G.ne) (h5 : ∀ e, e < G.ne → G.sl e < G.na) (h6 : ∀ e, e < G.ne → G.nu e < G.ct (G.sl e)) (h7 : ∀ e, e < G.ne → G.ev (G.sl e) (G.nu e) = e) (h8 : ∀ s n, s < G.na → n < G.ct s → G.ev s n < G.ne) (h9 : ∀ s n, s < G.na → n < G.ct s → G.sl (G.ev s n) = s) (h10 : ∀ s n, s < G.na → n < G.ct s → G.nu (G.ev s n) = n) (h11 : ∀ e s, e < G.ne → s < G.na → G.pa e s ≤ G.ct s) (h12 : ∀ e s, e < G.ne → G.na ≤ s → G.pa e s = 0) (h13 : ∀ e, e < G.ne → G.pa e (G.sl e) = G.nu e) (h14 : ∀ e, e < G.ne → vcl G (G.pa e)) (h15 : tr_ok G.k 8193) (h16 : G.k 0 false = []) (h17 : (od G).Nodup) (h18 : ∀ x, x ∈ od G ↔ x = 0 ∨ ∃ e, x = e + 1 ∧ e < G.ne ∧ G.ins e = true) (h19 : ∀ p b c, c ∈ G.k p b → p ≤ G.ne ∧ c ≤ G.ne) (h20 : ∀ p b p' b' c, c ∈ G.k p b → c ∈ G.k p' b' → p = p' ∧ b = b') (h21 : ∀ p b c, (c + 1) ∈ G.k (p + 1) b → kn G (G.pa c) p) (h22 : ∀ p b, (G.k p b).Pairwise (fun x y => ls G (x - 1) (y - 1))) (h23 : ∀ e d, d ∈ G.de e → e < G.ne ∧ d < G.ne ∧ G.ins d = false ∧ G.ins e = true) (h24 : ∀ e, (G.de e).Pairwise (fun x y => y < x)) : WF G := ⟨h0, h1, h2, h3, h4, h5, h6, h7, h8, h9, h10, h11, h12, h13, h14, h15, h16, h17, h18, h19, h20, h21, h22, h23, h24⟩
def CA : Type := (Nat) × (Nat) × (Nat) × (Nat) × (Nat) × (Nat) × (Nat) × (Nat) × (Nat → Nat) × (Nat → Nat) × (Nat → Nat) × (Nat → Nat) × (Nat → Nat) × (Nat → Nat) × (Nat → Nat → Nat)
def CA.c (x : CA) : Nat := x.1
def CA.ags (x : CA) : Nat := x.2.1
def CA.arr (x : CA) : Nat := x.2.2.1
def CA.rt (x : CA) : Nat := x.2.2.2.1
def CA.li (x : CA) : Nat := x.2.2.2.2.1
def CA.vw (x : CA) : Nat := x.2.2.2.2.2.1
def CA.ad (x : CA) : Nat := x.2.2.2.2.2.2.1
def CA.ac (x : CA) : Nat := x.2.2.2.2.2.2.2.1
def CA.ga (x : CA) : Nat → Nat := x.2.2.2.2.2.2.2.2.1
def CA.hl (x : CA) : Nat → Nat := x.2.2.2.2.2.2.2.2.2.1
def CA.hd (x : CA) : Nat → Nat := x.2.2.2.2.2.2.2.2.2.2.1
def CA.hc (x : CA) : Nat → Nat := x.2.2.2.2.2.2.2.2.2.2.2.1
def CA.ea (x : CA) : Nat → Nat := x.2.2.2.2.2.2.2.2.2.2.2.2.1
def CA.bf (x : CA) : Nat → Nat := x.2.2.2.2.2.2.2.2.2.2.2.2.2.1
def CA.bv (x : CA) : Nat → Nat → Nat := x.2.2.2.2.2.2.2.2.2.2.2.2.2.2
def CA.mk (c : Nat) (ags : Nat) (arr : Nat) (rt : Nat) (li : Nat) (vw : Nat) (ad : Nat) (ac : Nat) (ga : Nat → Nat) (hl : Nat → Nat) (hd : Nat → Nat) (hc : Nat → Nat) (ea : Nat → Nat) (bf : Nat → Nat) (bv : Nat → Nat → Nat) : CA := (c, ags, arr, rt, li, vw, ad, ac, ga, hl, hd, hc, ea, bf, bv)
theorem CA.c_mk {v0 : Nat} {v1 : Nat} {v2 : Nat} {v3 : Nat} {v4 : Nat} {v5 : Nat} {v6 : Nat} {v7 : Nat} {v8 : Nat → Nat} {v9 : Nat → Nat} {v10 : Nat → Nat} {v11 : Nat → Nat} {v12 : Nat → Nat} {v13 : Nat → Nat} {v14 : Nat → Nat → Nat} : (CA.mk v0 v1 v2 v3 v4 v5 v6 v7 v8 v9 v10 v11 v12 v13 v14).c = v0 := rfl
theorem CA.ags_mk {v0 : Nat} {v1 : Nat} {v2 : Nat} {v3 : Nat} {v4 : Nat} {v5 : Nat} {v6 : Nat} {v7 : Nat} {v8 : Nat → Nat} {v9 : Nat → Nat} {v10 : Nat → Nat} {v11 : Nat → Nat} {v12 : Nat → Nat} {v13 : Nat → Nat} {v14 : Nat → Nat → Nat} : (CA.mk v0 v1 v2 v3 v4 v5 v6 v7 v8 v9 v10 v11 v12 v13 v14).ags = v1 := rfl
theorem CA.arr_mk {v0 : Nat} {v1 : Nat} {v2 : Nat} {v3 : Nat} {v4 : Nat} {v5 : Nat} {v6 : Nat} {v7 : Nat} {v8 : Nat → Nat} {v9 : Nat → Nat} {v10 : Nat → Nat} {v11 : Nat → Nat} {v12 : Nat → Nat} {v13 : Nat → Nat} {v14 : Nat → Nat → Nat} : (CA.mk v0 v1 v2 v3 v4 v5 v6 v7 v8 v9 v10 v11 v12 v13 v14).arr = v2 := rfl
theorem CA.rt_mk {v0 : Nat} {v1 : Nat} {v2 : Nat} {v3 : Nat} {v4 : Nat} {v5 : Nat} {v6 : Nat} {v7 : Nat} {v8 : Nat → Nat} {v9 : Nat → Nat} {v10 : Nat → Nat} {v11 : Nat → Nat} {v12 : Nat → Nat} {v13 : Nat → Nat} {v14 : Nat → Nat → Nat} : (CA.mk v0 v1 v2 v3 v4 v5 v6 v7 v8 v9 v10 v11 v12 v13 v14).rt = v3 := rfl
theorem CA.li_mk {v0 : Nat} {v1 : Nat} {v2 : Nat} {v3 : Nat} {v4 : Nat} {v5 : Nat} {v6 : Nat} {v7 : Nat} {v8 : Nat → Nat} {v9 : Nat → Nat} {v10 : Nat → Nat} {v11 : Nat → Nat} {v12 : Nat → Nat} {v13 : Nat → Nat} {v14 : Nat → Nat → Nat} : (CA.mk v0 v1 v2 v3 v4 v5 v6 v7 v8 v9 v10 v11 v12 v13 v14).li = v4 := rfl
theorem CA.vw_mk {v0 : Nat} {v1 : Nat} {v2 : Nat} {v3 : Nat} {v4 : Nat} {v5 : Nat} {v6 : Nat} {v7 : Nat} {v8 : Nat → Nat} {v9 : Nat → Nat} {v10 : Nat → Nat} {v11 : Nat → Nat} {v12 : Nat → Nat} {v13 : Nat → Nat} {v14 : Nat → Nat → Nat} : (CA.mk v0 v1 v2 v3 v4 v5 v6 v7 v8 v9 v10 v11 v12 v13 v14).vw = v5 := rfl
theorem CA.ad_mk {v0 : Nat} {v1 : Nat} {v2 : Nat} {v3 : Nat} {v4 : Nat} {v5 : Nat} {v6 : Nat} {v7 : Nat} {v8 : Nat → Nat} {v9 : Nat → Nat} {v10 : Nat → Nat} {v11 : Nat → Nat} {v12 : Nat → Nat} {v13 : Nat → Nat} {v14 : Nat → Nat → Nat} : (CA.mk v0 v1 v2 v3 v4 v5 v6 v7 v8 v9 v10 v11 v12 v13 v14).ad = v6 := rfl
theorem CA.ac_mk {v0 : Nat} {v1 : Nat} {v2 : Nat} {v3 : Nat} {v4 : Nat} {v5 : Nat} {v6 : Nat} {v7 : Nat} {v8 : Nat → Nat} {v9 : Nat → Nat} {v10 : Nat → Nat} {v11 : Nat → Nat} {v12 : Nat → Nat} {v13 : Nat → Nat} {v14 : Nat → Nat → Nat} : (CA.mk v0 v1 v2 v3 v4 v5 v6 v7 v8 v9 v10 v11 v12 v13 v14).ac = v7 := rfl
theorem CA.ga_mk {v0 : Nat} {v1 : Nat} {v2 : Nat} {v3 : Nat} {v4 : Nat} {v5 : Nat} {v6 : Nat} {v7 : Nat} {v8 : Nat → Nat} {v9 : Nat → Nat} {v10 : Nat → Nat} {v11 : Nat → Nat} {v12 : Nat → Nat} {v13 : Nat → Nat} {v14 : Nat → Nat → Nat} : (CA.mk v0 v1 v2 v3 v4 v5 v6 v7 v8 v9 v10 v11 v12 v13 v14).ga = v8 := rfl
theorem CA.hl_mk {v0 : Nat} {v1 : Nat} {v2 : Nat} {v3 : Nat} {v4 : Nat} {v5 : Nat} {v6 : Nat} {v7 : Nat} {v8 : Nat → Nat} {v9 : Nat → Nat} {v10 : Nat → Nat} {v11 : Nat → Nat} {v12 : Nat → Nat} {v13 : Nat → Nat} {v14 : Nat → Nat → Nat} : (CA.mk v0 v1 v2 v3 v4 v5 v6 v7 v8 v9 v10 v11 v12 v13 v14).hl = v9 := rfl
theorem CA.hd_mk {v0 : Nat} {v1 : Nat} {v2 : Nat} {v3 : Nat} {v4 : Nat} {v5 : Nat} {v6 : Nat} {v7 : Nat} {v8 : Nat → Nat} {v9 : Nat → Nat} {v10 : Nat → Nat} {v11 : Nat → Nat} {v12 : Nat → Nat} {v13 : Nat → Nat} {v14 : Nat → Nat → Nat} : (CA.mk v0 v1 v2 v3 v4 v5 v6 v7 v8 v9 v10 v11 v12 v13 v14).hd = v10 := rfl
theorem CA.hc_mk {v0 : Nat} {v1 : Nat} {v2 : Nat} {v3 : Nat} {v4 : Nat} {v5 : Nat} {v6 : Nat} {v7 : Nat} {v8 : Nat → Nat} {v9 : Nat → Nat} {v10 : Nat → Nat} {v11 : Nat → Nat} {v12 : Nat → Nat} {v13 : Nat → Nat} {v14 : Nat → Nat → Nat} : (CA.mk v0 v1 v2 v3 v4 v5 v6 v7 v8 v9 v10 v11 v12 v13 v14).hc = v11 := rfl
theorem CA.ea_mk {v0 : Nat} {v1 : Nat} {v2 : Nat} {v3 : Nat} {v4 : Nat} {v5 : Nat} {v6 : Nat} {v7 : Nat} {v8 : Nat → Nat} {v9 : Nat → Nat} {v10 : Nat → Nat} {v11 : Nat → Nat} {v12 : Nat → Nat} {v13 : Nat → Nat} {v14 : Nat → Nat → Nat} : (CA.mk v0 v1 v2 v3 v4 v5 v6 v7 v8 v9 v10 v11 v12 v13 v14).ea = v12 := rfl
theorem CA.bf_mk {v0 : Nat} {v1 : Nat} {v2 : Nat} {v3 : Nat} {v4 : Nat} {v5 : Nat} {v6 : Nat} {v7 : Nat} {v8 : Nat → Nat} {v9 : Nat → Nat} {v10 : Nat → Nat} {v11 : Nat → Nat} {v12 : Nat → Nat} {v13 : Nat → Nat} {v14 : Nat → Nat → Nat} : (CA.mk v0 v1 v2 v3 v4 v5 v6 v7 v8 v9 v10 v11 v12 v13 v14).bf = v13 := rfl
theorem CA.bv_mk {v0 : Nat} {v1 : Nat} {v2 : Nat} {v3 : Nat} {v4 : Nat} {v5 : Nat} {v6 : Nat} {v7 : Nat} {v8 : Nat → Nat} {v9 : Nat → Nat} {v10 : Nat → Nat} {v11 : Nat → Nat} {v12 : Nat → Nat} {v13 : Nat → Nat} {v14 : Nat → Nat → Nat} : (CA.mk v0 v1 v2 v3 v4 v5 v6 v7 v8 v9 v10 v11 v12 v13 v14).bv = v14 := rfl
def nd (A : CA) : Nat → Nat
  | 0 => A.rt
  | e + 1 => A.ea e
def chn (f : Nat → Option Nat) : Option Nat → List Nat → Prop
  | o, [] => o = none
  | o, x :: l => o = some x ∧ chn f (f x) l
def rowD (z : Nat) (T : Nat → Option (Nat × Nat)) (r : Nat → Nat → Option Nat) (d cap n : Nat) (f : Nat → Nat) : Prop :=
  n ≤ cap ∧ cap ≤ 10 + n + n / 2 ∧ n ≤ 8192 ∧ ((cap = 0 ∧ d = z) ∨ (10 ≤ cap ∧ T d = some (106, cap) ∧ ∀ i, i < n → r d i = some (f i)))
def RCk (G : AG) (A : CA) (T : Nat → Option (Nat × Nat)) : Prop := (T A.c = some (4, 8)) ∧ (T A.ags = some (104, 16)) ∧ (T A.arr = some (0, 3)) ∧ (T A.rt = some (3, 13)) ∧ (T A.li = some (105, 16)) ∧ (T A.vw = some (100, 16)) ∧ (∀ s, s < G.na → T (A.ga s) = some (1, 3)) ∧ (∀ s, s < G.na → T (A.hl s) = some (0, 3)) ∧ (∀ e, e < G.ne → T (A.ea e) = some (if G.ins e = true then (3, 13) else (2, 6))) ∧ (∀ e, e < G.ne → T (A.bf e) = some (100, 16)) ∧ (∀ e e', e < G.ne → e' < G.ne → A.ea e = A.ea e' → e = e') ∧ (∀ e, e < G.ne → A.ea e ≠ A.rt) ∧ (∀ s s', s < G.na → s' < G.na → A.ga s = A.ga s' → s = s') ∧ (∀ s s', s < G.na → s' < G.na → A.hl s = A.hl s' → s = s') ∧ (∀ s, s < G.na → A.hl s ≠ A.arr) ∧ (∀ e, e < G.ne → A.bf e ≠ A.vw) ∧ (∀ s s', s < G.na → s' < G.na → 0 < A.hc s → 0 < A.hc s' → A.hd s = A.hd s' → s = s') ∧ (∀ s, s < G.na → 0 < A.hc s → 0 < A.ac → A.hd s ≠ A.ad)
theorem RCk.c {G : AG} {A : CA} {T : Nat → Option (Nat × Nat)} (h : RCk G A T) : T A.c = some (4, 8) := h.1
theorem RCk.ags {G : AG} {A : CA} {T : Nat → Option (Nat × Nat)} (h : RCk G A T) : T A.ags = some (104, 16) := h.2.1
theorem RCk.arr {G : AG} {A : CA} {T : Nat → Option (Nat × Nat)} (h : RCk G A T) : T A.arr = some (0, 3) := h.2.2.1
theorem RCk.rt {G : AG} {A : CA} {T : Nat → Option (Nat × Nat)} (h : RCk G A T) : T A.rt = some (3, 13) := h.2.2.2.1
theorem RCk.li {G : AG} {A : CA} {T : Nat → Option (Nat × Nat)} (h : RCk G A T) : T A.li = some (105, 16) := h.2.2.2.2.1
theorem RCk.vw {G : AG} {A : CA} {T : Nat → Option (Nat × Nat)} (h : RCk G A T) : T A.vw = some (100, 16) := h.2.2.2.2.2.1
theorem RCk.ga {G : AG} {A : CA} {T : Nat → Option (Nat × Nat)} (h : RCk G A T) : ∀ s, s < G.na → T (A.ga s) = some (1, 3) := h.2.2.2.2.2.2.1
theorem RCk.hl {G : AG} {A : CA} {T : Nat → Option (Nat × Nat)} (h : RCk G A T) : ∀ s, s < G.na → T (A.hl s) = some (0, 3) := h.2.2.2.2.2.2.2.1
theorem RCk.ea {G : AG} {A : CA} {T : Nat → Option (Nat × Nat)} (h : RCk G A T) : ∀ e, e < G.ne → T (A.ea e) = some (if G.ins e = true then (3, 13) else (2, 6)) := h.2.2.2.2.2.2.2.2.1
theorem RCk.bf {G : AG} {A : CA} {T : Nat → Option (Nat × Nat)} (h : RCk G A T) : ∀ e, e < G.ne → T (A.bf e) = some (100, 16) := h.2.2.2.2.2.2.2.2.2.1
theorem RCk.ea_inj {G : AG} {A : CA} {T : Nat → Option (Nat × Nat)} (h : RCk G A T) : ∀ e e', e < G.ne → e' < G.ne → A.ea e = A.ea e' → e = e' := h.2.2.2.2.2.2.2.2.2.2.1
theorem RCk.ea_rt {G : AG} {A : CA} {T : Nat → Option (Nat × Nat)} (h : RCk G A T) : ∀ e, e < G.ne → A.ea e ≠ A.rt := h.2.2.2.2.2.2.2.2.2.2.2.1
theorem RCk.ga_inj {G : AG} {A : CA} {T : Nat → Option (Nat × Nat)} (h : RCk G A T) : ∀ s s', s < G.na → s' < G.na → A.ga s = A.ga s' → s = s' := h.2.2.2.2.2.2.2.2.2.2.2.2.1
theorem RCk.hl_inj {G : AG} {A : CA} {T : Nat → Option (Nat × Nat)} (h : RCk G A T) : ∀ s s', s < G.na → s' < G.na → A.hl s = A.hl s' → s = s' := h.2.2.2.2.2.2.2.2.2.2.2.2.2.1
theorem RCk.hl_arr {G : AG} {A : CA} {T : Nat → Option (Nat × Nat)} (h : RCk G A T) : ∀ s, s < G.na → A.hl s ≠ A.arr := h.2.2.2.2.2.2.2.2.2.2.2.2.2.2.1
theorem RCk.bf_vw {G : AG} {A : CA} {T : Nat → Option (Nat × Nat)} (h : RCk G A T) : ∀ e, e < G.ne → A.bf e ≠ A.vw := h.2.2.2.2.2.2.2.2.2.2.2.2.2.2.2.1
theorem RCk.hd_inj {G : AG} {A : CA} {T : Nat → Option (Nat × Nat)} (h : RCk G A T) : ∀ s s', s < G.na → s' < G.na → 0 < A.hc s → 0 < A.hc s' → A.hd s = A.hd s' → s = s' := h.2.2.2.2.2.2.2.2.2.2.2.2.2.2.2.2.1
theorem RCk.hd_ad {G : AG} {A : CA} {T : Nat → Option (Nat × Nat)} (h : RCk G A T) : ∀ s, s < G.na → 0 < A.hc s → 0 < A.ac → A.hd s ≠ A.ad := h.2.2.2.2.2.2.2.2.2.2.2.2.2.2.2.2.2
theorem RCk.mk {G : AG} {A : CA} {T : Nat → Option (Nat × Nat)} (h0 : T A.c = some (4, 8)) (h1 : T A.ags = some (104, 16)) (h2 : T A.arr = some (0, 3)) (h3 : T A.rt = some (3, 13)) (h4 : T A.li = some (105, 16)) (h5 : T A.vw = some (100, 16)) (h6 : ∀ s, s < G.na → T (A.ga s) = some (1, 3)) (h7 : ∀ s, s < G.na → T (A.hl s) = some (0, 3)) (h8 : ∀ e, e < G.ne → T (A.ea e) = some (if G.ins e = true then (3, 13) else (2, 6))) (h9 : ∀ e, e < G.ne → T (A.bf e) = some (100, 16)) (h10 : ∀ e e', e < G.ne → e' < G.ne → A.ea e = A.ea e' → e = e') (h11 : ∀ e, e < G.ne → A.ea e ≠ A.rt) (h12 : ∀ s s', s < G.na → s' < G.na → A.ga s = A.ga s' → s = s') (h13 : ∀ s s', s < G.na → s' < G.na → A.hl s = A.hl s' → s = s') (h14 : ∀ s, s < G.na → A.hl s ≠ A.arr) (h15 : ∀ e, e < G.ne → A.bf e ≠ A.vw) (h16 : ∀ s s', s < G.na → s' < G.na → 0 < A.hc s → 0 < A.hc s' → A.hd s = A.hd s' → s = s') (h17 : ∀ s, s < G.na → 0 < A.hc s → 0 < A.ac → A.hd s ≠ A.ad) : RCk G A T := ⟨h0, h1, h2, h3, h4, h5, h6, h7, h8, h9, h10, h11, h12, h13, h14, h15, h16, h17⟩
def RCf (G : AG) (A : CA) (g : Sg) : Prop := (fR g 21 A.c = some A.ags) ∧ (fR g 22 A.c = some A.arr) ∧ (fR g 23 A.c = some A.rt) ∧ (fR g 24 A.c = some A.li) ∧ (fR g 25 A.c = some A.vw) ∧ (fI g 26 A.c = nI G.na) ∧ (∀ s, s < G.na → aR g A.ags s = some (A.ga s)) ∧ (∀ s, s < G.na → fI g 4 (A.ga s) = nI (G.nm s)) ∧ (∀ s, s < G.na → fI g 5 (A.ga s) = nI s) ∧ (∀ s, s < G.na → fR g 6 (A.ga s) = some (A.hl s))
theorem RCf.ags {G : AG} {A : CA} {g : Sg} (h : RCf G A g) : fR g 21 A.c = some A.ags := h.1
theorem RCf.arr {G : AG} {A : CA} {g : Sg} (h : RCf G A g) : fR g 22 A.c = some A.arr := h.2.1
theorem RCf.rt {G : AG} {A : CA} {g : Sg} (h : RCf G A g) : fR g 23 A.c = some A.rt := h.2.2.1
theorem RCf.li {G : AG} {A : CA} {g : Sg} (h : RCf G A g) : fR g 24 A.c = some A.li := h.2.2.2.1
theorem RCf.vw {G : AG} {A : CA} {g : Sg} (h : RCf G A g) : fR g 25 A.c = some A.vw := h.2.2.2.2.1
theorem RCf.na {G : AG} {A : CA} {g : Sg} (h : RCf G A g) : fI g 26 A.c = nI G.na := h.2.2.2.2.2.1
theorem RCf.ag {G : AG} {A : CA} {g : Sg} (h : RCf G A g) : ∀ s, s < G.na → aR g A.ags s = some (A.ga s) := h.2.2.2.2.2.2.1
theorem RCf.nm {G : AG} {A : CA} {g : Sg} (h : RCf G A g) : ∀ s, s < G.na → fI g 4 (A.ga s) = nI (G.nm s) := h.2.2.2.2.2.2.2.1
theorem RCf.sl {G : AG} {A : CA} {g : Sg} (h : RCf G A g) : ∀ s, s < G.na → fI g 5 (A.ga s) = nI s := h.2.2.2.2.2.2.2.2.1
theorem RCf.hl {G : AG} {A : CA} {g : Sg} (h : RCf G A g) : ∀ s, s < G.na → fR g 6 (A.ga s) = some (A.hl s) := h.2.2.2.2.2.2.2.2.2
theorem RCf.mk {G : AG} {A : CA} {g : Sg} (h0 : fR g 21 A.c = some A.ags) (h1 : fR g 22 A.c = some A.arr) (h2 : fR g 23 A.c = some A.rt) (h3 : fR g 24 A.c = some A.li) (h4 : fR g 25 A.c = some A.vw) (h5 : fI g 26 A.c = nI G.na) (h6 : ∀ s, s < G.na → aR g A.ags s = some (A.ga s)) (h7 : ∀ s, s < G.na → fI g 4 (A.ga s) = nI (G.nm s)) (h8 : ∀ s, s < G.na → fI g 5 (A.ga s) = nI s) (h9 : ∀ s, s < G.na → fR g 6 (A.ga s) = some (A.hl s)) : RCf G A g := ⟨h0, h1, h2, h3, h4, h5, h6, h7, h8, h9⟩
def RCl (z : Nat) (G : AG) (A : CA) (T : Nat → Option (Nat × Nat)) (f2 : Nat → Option Nat) (f3 : Nat → Int32) (r : Nat → Nat → Option Nat) : Prop := (f3 A.arr = nI G.ne) ∧ (f2 A.arr = some A.ad) ∧ (rowD z T r A.ad A.ac G.ne A.ea) ∧ (∀ s, s < G.na → f3 (A.hl s) = nI (G.ct s)) ∧ (∀ s, s < G.na → f2 (A.hl s) = some (A.hd s)) ∧ (∀ s, s < G.na → rowD z T r (A.hd s) (A.hc s) (G.ct s) (fun n => A.ea (G.ev s n)))
theorem RCl.n {z : Nat} {G : AG} {A : CA} {T : Nat → Option (Nat × Nat)} {f2 : Nat → Option Nat} {f3 : Nat → Int32} {r : Nat → Nat → Option Nat} (h : RCl z G A T f2 f3 r) : f3 A.arr = nI G.ne := h.1
theorem RCl.d {z : Nat} {G : AG} {A : CA} {T : Nat → Option (Nat × Nat)} {f2 : Nat → Option Nat} {f3 : Nat → Int32} {r : Nat → Nat → Option Nat} (h : RCl z G A T f2 f3 r) : f2 A.arr = some A.ad := h.2.1
theorem RCl.row {z : Nat} {G : AG} {A : CA} {T : Nat → Option (Nat × Nat)} {f2 : Nat → Option Nat} {f3 : Nat → Int32} {r : Nat → Nat → Option Nat} (h : RCl z G A T f2 f3 r) : rowD z T r A.ad A.ac G.ne A.ea := h.2.2.1
theorem RCl.hn {z : Nat} {G : AG} {A : CA} {T : Nat → Option (Nat × Nat)} {f2 : Nat → Option Nat} {f3 : Nat → Int32} {r : Nat → Nat → Option Nat} (h : RCl z G A T f2 f3 r) : ∀ s, s < G.na → f3 (A.hl s) = nI (G.ct s) := h.2.2.2.1
theorem RCl.hd {z : Nat} {G : AG} {A : CA} {T : Nat → Option (Nat × Nat)} {f2 : Nat → Option Nat} {f3 : Nat → Int32} {r : Nat → Nat → Option Nat} (h : RCl z G A T f2 f3 r) : ∀ s, s < G.na → f2 (A.hl s) = some (A.hd s) := h.2.2.2.2.1
theorem RCl.hrow {z : Nat} {G : AG} {A : CA} {T : Nat → Option (Nat × Nat)} {f2 : Nat → Option Nat} {f3 : Nat → Int32} {r : Nat → Nat → Option Nat} (h : RCl z G A T f2 f3 r) : ∀ s, s < G.na → rowD z T r (A.hd s) (A.hc s) (G.ct s) (fun n => A.ea (G.ev s n)) := h.2.2.2.2.2
theorem RCl.mk {z : Nat} {G : AG} {A : CA} {T : Nat → Option (Nat × Nat)} {f2 : Nat → Option Nat} {f3 : Nat → Int32} {r : Nat → Nat → Option Nat} (h0 : f3 A.arr = nI G.ne) (h1 : f2 A.arr = some A.ad) (h2 : rowD z T r A.ad A.ac G.ne A.ea) (h3 : ∀ s, s < G.na → f3 (A.hl s) = nI (G.ct s)) (h4 : ∀ s, s < G.na → f2 (A.hl s) = some (A.hd s)) (h5 : ∀ s, s < G.na → rowD z T r (A.hd s) (A.hc s) (G.ct s) (fun n => A.ea (G.ev s n))) : RCl z G A T f2 f3 r := ⟨h0, h1, h2, h3, h4, h5⟩
def RCe (G : AG) (A : CA) (f7 : Nat → Option Nat) (f8 : Nat → Int32) (f9 : Nat → Option Nat) (f10 f13 : Nat → Int32) (r : Nat → Nat → Int32) : Prop := (∀ e, e < G.ne → f7 (A.ea e) = some (A.ga (G.sl e))) ∧ (∀ e, e < G.ne → f8 (A.ea e) = nI (G.nu e)) ∧ (∀ e, e < G.ne → f9 (A.ea e) = some (A.bf e)) ∧ (∀ e, e < G.ne → f10 (A.ea e) = nI e) ∧ (∀ e, e < G.ne → G.ins e = true → f13 (A.ea e) = G.cd e) ∧ (∀ e s, e < G.ne → s < 16 → r (A.bf e) s = nI (A.bv e s)) ∧ (∀ e s, e < G.ne → s < 16 → s ≠ G.sl e → A.bv e s = G.pa e s) ∧ (∀ e, e < G.ne → A.bv e (G.sl e) ≤ G.nu e)
theorem RCe.ag {G : AG} {A : CA} {f7 : Nat → Option Nat} {f8 : Nat → Int32} {f9 : Nat → Option Nat} {f10 f13 : Nat → Int32} {r : Nat → Nat → Int32} (h : RCe G A f7 f8 f9 f10 f13 r) : ∀ e, e < G.ne → f7 (A.ea e) = some (A.ga (G.sl e)) := h.1
theorem RCe.nu {G : AG} {A : CA} {f7 : Nat → Option Nat} {f8 : Nat → Int32} {f9 : Nat → Option Nat} {f10 f13 : Nat → Int32} {r : Nat → Nat → Int32} (h : RCe G A f7 f8 f9 f10 f13 r) : ∀ e, e < G.ne → f8 (A.ea e) = nI (G.nu e) := h.2.1
theorem RCe.bf {G : AG} {A : CA} {f7 : Nat → Option Nat} {f8 : Nat → Int32} {f9 : Nat → Option Nat} {f10 f13 : Nat → Int32} {r : Nat → Nat → Int32} (h : RCe G A f7 f8 f9 f10 f13 r) : ∀ e, e < G.ne → f9 (A.ea e) = some (A.bf e) := h.2.2.1
theorem RCe.ar {G : AG} {A : CA} {f7 : Nat → Option Nat} {f8 : Nat → Int32} {f9 : Nat → Option Nat} {f10 f13 : Nat → Int32} {r : Nat → Nat → Int32} (h : RCe G A f7 f8 f9 f10 f13 r) : ∀ e, e < G.ne → f10 (A.ea e) = nI e := h.2.2.2.1
theorem RCe.cd {G : AG} {A : CA} {f7 : Nat → Option Nat} {f8 : Nat → Int32} {f9 : Nat → Option Nat} {f10 f13 : Nat → Int32} {r : Nat → Nat → Int32} (h : RCe G A f7 f8 f9 f10 f13 r) : ∀ e, e < G.ne → G.ins e = true → f13 (A.ea e) = G.cd e := h.2.2.2.2.1
theorem RCe.bv {G : AG} {A : CA} {f7 : Nat → Option Nat} {f8 : Nat → Int32} {f9 : Nat → Option Nat} {f10 f13 : Nat → Int32} {r : Nat → Nat → Int32} (h : RCe G A f7 f8 f9 f10 f13 r) : ∀ e s, e < G.ne → s < 16 → r (A.bf e) s = nI (A.bv e s) := h.2.2.2.2.2.1
theorem RCe.pa {G : AG} {A : CA} {f7 : Nat → Option Nat} {f8 : Nat → Int32} {f9 : Nat → Option Nat} {f10 f13 : Nat → Int32} {r : Nat → Nat → Int32} (h : RCe G A f7 f8 f9 f10 f13 r) : ∀ e s, e < G.ne → s < 16 → s ≠ G.sl e → A.bv e s = G.pa e s := h.2.2.2.2.2.2.1
theorem RCe.own {G : AG} {A : CA} {f7 : Nat → Option Nat} {f8 : Nat → Int32} {f9 : Nat → Option Nat} {f10 f13 : Nat → Int32} {r : Nat → Nat → Int32} (h : RCe G A f7 f8 f9 f10 f13 r) : ∀ e, e < G.ne → A.bv e (G.sl e) ≤ G.nu e := h.2.2.2.2.2.2.2
theorem RCe.mk {G : AG} {A : CA} {f7 : Nat → Option Nat} {f8 : Nat → Int32} {f9 : Nat → Option Nat} {f10 f13 : Nat → Int32} {r : Nat → Nat → Int32} (h0 : ∀ e, e < G.ne → f7 (A.ea e) = some (A.ga (G.sl e))) (h1 : ∀ e, e < G.ne → f8 (A.ea e) = nI (G.nu e)) (h2 : ∀ e, e < G.ne → f9 (A.ea e) = some (A.bf e)) (h3 : ∀ e, e < G.ne → f10 (A.ea e) = nI e) (h4 : ∀ e, e < G.ne → G.ins e = true → f13 (A.ea e) = G.cd e) (h5 : ∀ e s, e < G.ne → s < 16 → r (A.bf e) s = nI (A.bv e s)) (h6 : ∀ e s, e < G.ne → s < 16 → s ≠ G.sl e → A.bv e s = G.pa e s) (h7 : ∀ e, e < G.ne → A.bv e (G.sl e) ≤ G.nu e) : RCe G A f7 f8 f9 f10 f13 r := ⟨h0, h1, h2, h3, h4, h5, h6, h7⟩
def rS (k : Nat → Bool → List Nat) (N : Nat → Nat) (F : Bool → Nat → Option Nat) (f16 : Nat → Option Nat) : Prop := ∀ p, p ∈ tr_S k 8193 0 → ∀ b, chn f16 (F b (N p)) ((k p b).map N)
abbrev RCs (G : AG) (A : CA) (f14 f15 f16 : Nat → Option Nat) : Prop := rS G.k (nd A) (fun b => cond b f15 f14) f16
def prv (f : Nat → Option Nat) : List Nat → Prop
  | [] => True
  | x :: l => (∀ y, l.head? = some y → f y = some x) ∧ prv f l
def rO (k : Nat → Bool → List Nat) (N : Nat → Nat) (f17 f18 : Nat → Option Nat) : Prop := chn f18 (some (N 0)) ((tr_S k 8193 0).map N) ∧ prv f17 ((tr_S k 8193 0).map N)
abbrev RCo (G : AG) (A : CA) (f17 f18 : Nat → Option Nat) : Prop := rO G.k (nd A) f17 f18
def RCd (G : AG) (A : CA) (f12 f19 : Nat → Option Nat) (f20 : Nat → Int32) : Prop := (∀ e, e < G.ne → G.ins e = true → chn f12 (f19 (A.ea e)) ((G.de e).map A.ea)) ∧ (∀ e, e < G.ne → G.ins e = true → f20 (A.ea e) = match (G.de e).getLast? with | none => 1000000 | some d => nI d)
theorem RCd.ch {G : AG} {A : CA} {f12 f19 : Nat → Option Nat} {f20 : Nat → Int32} (h : RCd G A f12 f19 f20) : ∀ e, e < G.ne → G.ins e = true → chn f12 (f19 (A.ea e)) ((G.de e).map A.ea) := h.1
theorem RCd.fc {G : AG} {A : CA} {f12 f19 : Nat → Option Nat} {f20 : Nat → Int32} (h : RCd G A f12 f19 f20) : ∀ e, e < G.ne → G.ins e = true → f20 (A.ea e) = match (G.de e).getLast? with | none => 1000000 | some d => nI d := h.2
theorem RCd.mk {G : AG} {A : CA} {f12 f19 : Nat → Option Nat} {f20 : Nat → Int32} (h0 : ∀ e, e < G.ne → G.ins e = true → chn f12 (f19 (A.ea e)) ((G.de e).map A.ea)) (h1 : ∀ e, e < G.ne → G.ins e = true → f20 (A.ea e) = match (G.de e).getLast? with | none => 1000000 | some d => nI d) : RCd G A f12 f19 f20 := ⟨h0, h1⟩
def txL (G : AG) (n : Nat) : Nat := ((od G).filter (fun x => decide (x ≠ 0 ∧ st G n (x - 1)))).length
def RCt (G : AG) (A : CA) (f11 f28 : Nat → Int32) : Prop := f28 A.c = nI (txL G G.ne) ∧ ∀ e, e < G.ne → f11 (A.ea e) = nI (txL G (e + 1))
def RC (z : Nat) (G : AG) (A : CA) (g : Sg) : Prop := (RCk G A (hT g)) ∧ (RCf G A g) ∧ (RCl z G A (hT g) (fR g 2) (fI g 3) (aR g)) ∧ (RCe G A (fR g 7) (fI g 8) (fR g 9) (fI g 10) (fI g 13) (aI g)) ∧ (RCs G A (fR g 14) (fR g 15) (fR g 16)) ∧ (RCo G A (fR g 17) (fR g 18)) ∧ (RCd G A (fR g 12) (fR g 19) (fI g 20)) ∧ (RCt G A (fI g 11) (fI g 28))
theorem RC.k {z : Nat} {G : AG} {A : CA} {g : Sg} (h : RC z G A g) : RCk G A (hT g) := h.1
theorem RC.f {z : Nat} {G : AG} {A : CA} {g : Sg} (h : RC z G A g) : RCf G A g := h.2.1
theorem RC.l {z : Nat} {G : AG} {A : CA} {g : Sg} (h : RC z G A g) : RCl z G A (hT g) (fR g 2) (fI g 3) (aR g) := h.2.2.1
theorem RC.e {z : Nat} {G : AG} {A : CA} {g : Sg} (h : RC z G A g) : RCe G A (fR g 7) (fI g 8) (fR g 9) (fI g 10) (fI g 13) (aI g) := h.2.2.2.1
theorem RC.s {z : Nat} {G : AG} {A : CA} {g : Sg} (h : RC z G A g) : RCs G A (fR g 14) (fR g 15) (fR g 16) := h.2.2.2.2.1
theorem RC.o {z : Nat} {G : AG} {A : CA} {g : Sg} (h : RC z G A g) : RCo G A (fR g 17) (fR g 18) := h.2.2.2.2.2.1
theorem RC.d {z : Nat} {G : AG} {A : CA} {g : Sg} (h : RC z G A g) : RCd G A (fR g 12) (fR g 19) (fI g 20) := h.2.2.2.2.2.2.1
theorem RC.t {z : Nat} {G : AG} {A : CA} {g : Sg} (h : RC z G A g) : RCt G A (fI g 11) (fI g 28) := h.2.2.2.2.2.2.2
theorem RC.mk {z : Nat} {G : AG} {A : CA} {g : Sg} (h0 : RCk G A (hT g)) (h1 : RCf G A g) (h2 : RCl z G A (hT g) (fR g 2) (fI g 3) (aR g)) (h3 : RCe G A (fR g 7) (fI g 8) (fR g 9) (fI g 10) (fI g 13) (aI g)) (h4 : RCs G A (fR g 14) (fR g 15) (fR g 16)) (h5 : RCo G A (fR g 17) (fR g 18)) (h6 : RCd G A (fR g 12) (fR g 19) (fI g 20)) (h7 : RCt G A (fI g 11) (fI g 28)) : RC z G A g := ⟨h0, h1, h2, h3, h4, h5, h6, h7⟩
def RCi (G : AG) (A : CA) (L : List Nat) (g : Sg) : Prop := (fI g 27 A.c = nI L.length) ∧ (L.length ≤ 16) ∧ (∀ e ∈ L, e < G.ne) ∧ (L.Nodup) ∧ (∀ (i e : Nat), L[i]? = some e → aR g A.li i = some (A.ea e))
theorem RCi.n {G : AG} {A : CA} {L : List Nat} {g : Sg} (h : RCi G A L g) : fI g 27 A.c = nI L.length := h.1
theorem RCi.le {G : AG} {A : CA} {L : List Nat} {g : Sg} (h : RCi G A L g) : L.length ≤ 16 := h.2.1
theorem RCi.lt {G : AG} {A : CA} {L : List Nat} {g : Sg} (h : RCi G A L g) : ∀ e ∈ L, e < G.ne := h.2.2.1
theorem RCi.nd {G : AG} {A : CA} {L : List Nat} {g : Sg} (h : RCi G A L g) : L.Nodup := h.2.2.2.1
theorem RCi.at {G : AG} {A : CA} {L : List Nat} {g : Sg} (h : RCi G A L g) : ∀ (i e : Nat), L[i]? = some e → aR g A.li i = some (A.ea e) := h.2.2.2.2
theorem RCi.mk {G : AG} {A : CA} {L : List Nat} {g : Sg} (h0 : fI g 27 A.c = nI L.length) (h1 : L.length ≤ 16) (h2 : ∀ e ∈ L, e < G.ne) (h3 : L.Nodup) (h4 : ∀ (i e : Nat), L[i]? = some e → aR g A.li i = some (A.ea e)) : RCi G A L g := ⟨h0, h1, h2, h3, h4⟩
def RCv (A : CA) (V : Nat → Nat) (g : Sg) : Prop := ∀ s, s < 16 → aI g A.vw s = nI (V s)
