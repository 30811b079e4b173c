def MA : Type := (Nat) × (Nat) × (Nat → Nat) × (Nat → Nat) × (Nat → Nat) × (Nat)
def MA.m (x : MA) : Nat := x.1
def MA.gr (x : MA) : Nat := x.2.1
def MA.f (x : MA) : Nat → Nat := x.2.2.1
def MA.rw (x : MA) : Nat → Nat := x.2.2.2.1
def MA.rl (x : MA) : Nat → Nat := x.2.2.2.2.1
def MA.ho (x : MA) : Nat := x.2.2.2.2.2
def MA.mk (m : Nat) (gr : Nat) (f : Nat → Nat) (rw : Nat → Nat) (rl : Nat → Nat) (ho : Nat) : MA := (m, gr, f, rw, rl, ho)
theorem MA.m_mk {v0 : Nat} {v1 : Nat} {v2 : Nat → Nat} {v3 : Nat → Nat} {v4 : Nat → Nat} {v5 : Nat} : (MA.mk v0 v1 v2 v3 v4 v5).m = v0 := rfl
theorem MA.gr_mk {v0 : Nat} {v1 : Nat} {v2 : Nat → Nat} {v3 : Nat → Nat} {v4 : Nat → Nat} {v5 : Nat} : (MA.mk v0 v1 v2 v3 v4 v5).gr = v1 := rfl
theorem MA.f_mk {v0 : Nat} {v1 : Nat} {v2 : Nat → Nat} {v3 : Nat → Nat} {v4 : Nat → Nat} {v5 : Nat} : (MA.mk v0 v1 v2 v3 v4 v5).f = v2 := rfl
theorem MA.rw_mk {v0 : Nat} {v1 : Nat} {v2 : Nat → Nat} {v3 : Nat → Nat} {v4 : Nat → Nat} {v5 : Nat} : (MA.mk v0 v1 v2 v3 v4 v5).rw = v3 := rfl
theorem MA.rl_mk {v0 : Nat} {v1 : Nat} {v2 : Nat → Nat} {v3 : Nat → Nat} {v4 : Nat → Nat} {v5 : Nat} : (MA.mk v0 v1 v2 v3 v4 v5).rl = v4 := rfl
theorem MA.ho_mk {v0 : Nat} {v1 : Nat} {v2 : Nat → Nat} {v3 : Nat → Nat} {v4 : Nat → Nat} {v5 : Nat} : (MA.mk v0 v1 v2 v3 v4 v5).ho = v5 := rfl
abbrev isF (i : Nat) : Prop := (32 ≤ i ∧ i ≤ 50 ∧ i ≠ 46) ∨ i = 52 ∨ i = 53 ∨ i = 55
def MK (i : Nat) : Nat × Nat := if i = 32 ∨ i = 33 ∨ i = 52 ∨ i = 53 then (100, 16) else if i = 34 then (107, 16) else if i = 37 then (101, 131072) else if i = 38 ∨ i = 45 then (102, 8192) else if i = 55 then (101, 16) else (100, 8192)
def chI (f : Nat → Int32) : Int32 → List Nat → Prop
  | v, [] => v = -1
  | v, e :: l => v = nI e ∧ chI f (f e) l
def RMk (M : MA) (T : Nat → Option (Nat × Nat)) : Prop := (T M.m = some (6, 6)) ∧ (T M.gr = some (5, 22)) ∧ (∀ i, isF i → T (M.f i) = some (MK i)) ∧ (∀ s, s < 16 → T (M.rw s) = some (100, M.rl s)) ∧ (∀ s, s < 16 → 8 ≤ M.rl s ∧ M.rl s ≤ 16384) ∧ (∀ i j, isF i → isF j → M.f i = M.f j → i = j) ∧ (∀ s i, s < 16 → isF i → M.rw s ≠ M.f i) ∧ (∀ s t, s < 16 → t < 16 → M.rw s = M.rw t → s = t)
theorem RMk.m {M : MA} {T : Nat → Option (Nat × Nat)} (h : RMk M T) : T M.m = some (6, 6) := h.1
theorem RMk.gr {M : MA} {T : Nat → Option (Nat × Nat)} (h : RMk M T) : T M.gr = some (5, 22) := h.2.1
theorem RMk.f {M : MA} {T : Nat → Option (Nat × Nat)} (h : RMk M T) : ∀ i, isF i → T (M.f i) = some (MK i) := h.2.2.1
theorem RMk.rw {M : MA} {T : Nat → Option (Nat × Nat)} (h : RMk M T) : ∀ s, s < 16 → T (M.rw s) = some (100, M.rl s) := h.2.2.2.1
theorem RMk.rl {M : MA} {T : Nat → Option (Nat × Nat)} (h : RMk M T) : ∀ s, s < 16 → 8 ≤ M.rl s ∧ M.rl s ≤ 16384 := h.2.2.2.2.1
theorem RMk.inj {M : MA} {T : Nat → Option (Nat × Nat)} (h : RMk M T) : ∀ i j, isF i → isF j → M.f i = M.f j → i = j := h.2.2.2.2.2.1
theorem RMk.rwf {M : MA} {T : Nat → Option (Nat × Nat)} (h : RMk M T) : ∀ s i, s < 16 → isF i → M.rw s ≠ M.f i := h.2.2.2.2.2.2.1
theorem RMk.rwi {M : MA} {T : Nat → Option (Nat × Nat)} (h : RMk M T) : ∀ s t, s < 16 → t < 16 → M.rw s = M.rw t → s = t := h.2.2.2.2.2.2.2
theorem RMk.mk {M : MA} {T : Nat → Option (Nat × Nat)} (h0 : T M.m = some (6, 6)) (h1 : T M.gr = some (5, 22)) (h2 : ∀ i, isF i → T (M.f i) = some (MK i)) (h3 : ∀ s, s < 16 → T (M.rw s) = some (100, M.rl s)) (h4 : ∀ s, s < 16 → 8 ≤ M.rl s ∧ M.rl s ≤ 16384) (h5 : ∀ i j, isF i → isF j → M.f i = M.f j → i = j) (h6 : ∀ s i, s < 16 → isF i → M.rw s ≠ M.f i) (h7 : ∀ s t, s < 16 → t < 16 → M.rw s = M.rw t → s = t) : RMk M T := ⟨h0, h1, h2, h3, h4, h5, h6, h7⟩
def RMf (M : MA) (g : Sg) : Prop := (fR g 51 M.m = some M.gr) ∧ (∀ i, 32 ≤ i ∧ i ≤ 50 ∧ i ≠ 46 → fR g i M.gr = some (M.f i)) ∧ (fR g 52 M.m = some (M.f 52)) ∧ (fR g 53 M.m = some (M.f 53)) ∧ (fR g 55 M.m = some (M.f 55)) ∧ (∀ s, s < 16 → aR g (M.f 34) s = some (M.rw s))
theorem RMf.g {M : MA} {g : Sg} (h : RMf M g) : fR g 51 M.m = some M.gr := h.1
theorem RMf.f {M : MA} {g : Sg} (h : RMf M g) : ∀ i, 32 ≤ i ∧ i ≤ 50 ∧ i ≠ 46 → fR g i M.gr = some (M.f i) := h.2.1
theorem RMf.l {M : MA} {g : Sg} (h : RMf M g) : fR g 52 M.m = some (M.f 52) := h.2.2.1
theorem RMf.t {M : MA} {g : Sg} (h : RMf M g) : fR g 53 M.m = some (M.f 53) := h.2.2.2.1
theorem RMf.s {M : MA} {g : Sg} (h : RMf M g) : fR g 55 M.m = some (M.f 55) := h.2.2.2.2.1
theorem RMf.rw {M : MA} {g : Sg} (h : RMf M g) : ∀ s, s < 16 → aR g (M.f 34) s = some (M.rw s) := h.2.2.2.2.2
theorem RMf.mk {M : MA} {g : Sg} (h0 : fR g 51 M.m = some M.gr) (h1 : ∀ i, 32 ≤ i ∧ i ≤ 50 ∧ i ≠ 46 → fR g i M.gr = some (M.f i)) (h2 : fR g 52 M.m = some (M.f 52)) (h3 : fR g 53 M.m = some (M.f 53)) (h4 : fR g 55 M.m = some (M.f 55)) (h5 : ∀ s, s < 16 → aR g (M.f 34) s = some (M.rw s)) : RMf M g := ⟨h0, h1, h2, h3, h4, h5⟩
def RMc (G : AG) (M : MA) (g : Sg) : Prop := (fI g 29 M.gr = nI G.ne) ∧ (fI g 30 M.gr = nI G.na) ∧ (fI g 31 M.gr = nI ((od G).length - 1)) ∧ (chI (aI g (M.f 42)) (fI g 46 M.gr) ((G.k 0 true).map (· - 1))) ∧ (∀ s, s < G.na → aI g (M.f 32) s = nI (G.nm s)) ∧ (∀ s, s < 16 → aI g (M.f 33) s = nI (if s < G.na then G.ct s else 0)) ∧ (∀ s n, s < G.na → n < G.ct s → aI g (M.rw s) n = nI (G.ev s n)) ∧ (∀ s, s < G.na → G.ct s ≤ M.rl s) ∧ (∀ e, e < G.ne → aI g (M.f 35) e = nI (G.sl e)) ∧ (∀ e, e < G.ne → aI g (M.f 36) e = nI (G.nu e)) ∧ (∀ e s, e < G.ne → s < 16 → aI g (M.f 37) (16 * e + s) = nI (G.pa e s)) ∧ (∀ e, e < G.ne → e ≠ M.ho → aI g (M.f 38) e = if G.ins e = true then 1 else 0) ∧ (∀ e, e < G.ne → G.ins e = true → aI g (M.f 40) e = G.cd e) ∧ (∀ e, e < G.ne → G.ins e = true → chI (aI g (M.f 42)) (aI g (M.f 43) e) ((G.k (e + 1) false).map (· - 1))) ∧ (∀ e, e < G.ne → G.ins e = true → chI (aI g (M.f 42)) (aI g (M.f 44) e) ((G.k (e + 1) true).map (· - 1))) ∧ (∀ e, e < G.ne → G.ins e = true → chI (aI g (M.f 48)) (aI g (M.f 49) e) (G.de e)) ∧ (∀ i x, (od G)[i + 1]? = some x → aI g (M.f 50) i = nI (x - 1))
theorem RMc.ne {G : AG} {M : MA} {g : Sg} (h : RMc G M g) : fI g 29 M.gr = nI G.ne := h.1
theorem RMc.na {G : AG} {M : MA} {g : Sg} (h : RMc G M g) : fI g 30 M.gr = nI G.na := h.2.1
theorem RMc.no {G : AG} {M : MA} {g : Sg} (h : RMc G M g) : fI g 31 M.gr = nI ((od G).length - 1) := h.2.2.1
theorem RMc.rc {G : AG} {M : MA} {g : Sg} (h : RMc G M g) : chI (aI g (M.f 42)) (fI g 46 M.gr) ((G.k 0 true).map (· - 1)) := h.2.2.2.1
theorem RMc.nm {G : AG} {M : MA} {g : Sg} (h : RMc G M g) : ∀ s, s < G.na → aI g (M.f 32) s = nI (G.nm s) := h.2.2.2.2.1
theorem RMc.ct {G : AG} {M : MA} {g : Sg} (h : RMc G M g) : ∀ s, s < 16 → aI g (M.f 33) s = nI (if s < G.na then G.ct s else 0) := h.2.2.2.2.2.1
theorem RMc.ev {G : AG} {M : MA} {g : Sg} (h : RMc G M g) : ∀ s n, s < G.na → n < G.ct s → aI g (M.rw s) n = nI (G.ev s n) := h.2.2.2.2.2.2.1
theorem RMc.rl {G : AG} {M : MA} {g : Sg} (h : RMc G M g) : ∀ s, s < G.na → G.ct s ≤ M.rl s := h.2.2.2.2.2.2.2.1
theorem RMc.sl {G : AG} {M : MA} {g : Sg} (h : RMc G M g) : ∀ e, e < G.ne → aI g (M.f 35) e = nI (G.sl e) := h.2.2.2.2.2.2.2.2.1
theorem RMc.nu {G : AG} {M : MA} {g : Sg} (h : RMc G M g) : ∀ e, e < G.ne → aI g (M.f 36) e = nI (G.nu e) := h.2.2.2.2.2.2.2.2.2.1
theorem RMc.pa {G : AG} {M : MA} {g : Sg} (h : RMc G M g) : ∀ e s, e < G.ne → s < 16 → aI g (M.f 37) (16 * e + s) = nI (G.pa e s) := h.2.2.2.2.2.2.2.2.2.2.1
theorem RMc.ins {G : AG} {M : MA} {g : Sg} (h : RMc G M g) : ∀ e, e < G.ne → e ≠ M.ho → aI g (M.f 38) e = if G.ins e = true then 1 else 0 := h.2.2.2.2.2.2.2.2.2.2.2.1
theorem RMc.cd {G : AG} {M : MA} {g : Sg} (h : RMc G M g) : ∀ e, e < G.ne → G.ins e = true → aI g (M.f 40) e = G.cd e := h.2.2.2.2.2.2.2.2.2.2.2.2.1
theorem RMc.lc {G : AG} {M : MA} {g : Sg} (h : RMc G M g) : ∀ e, e < G.ne → G.ins e = true → chI (aI g (M.f 42)) (aI g (M.f 43) e) ((G.k (e + 1) false).map (· - 1)) := h.2.2.2.2.2.2.2.2.2.2.2.2.2.1
theorem RMc.rch {G : AG} {M : MA} {g : Sg} (h : RMc G M g) : ∀ e, e < G.ne → G.ins e = true → chI (aI g (M.f 42)) (aI g (M.f 44) e) ((G.k (e + 1) true).map (· - 1)) := h.2.2.2.2.2.2.2.2.2.2.2.2.2.2.1
theorem RMc.de {G : AG} {M : MA} {g : Sg} (h : RMc G M g) : ∀ e, e < G.ne → G.ins e = true → chI (aI g (M.f 48)) (aI g (M.f 49) e) (G.de e) := h.2.2.2.2.2.2.2.2.2.2.2.2.2.2.2.1
theorem RMc.ord {G : AG} {M : MA} {g : Sg} (h : RMc G M g) : ∀ i x, (od G)[i + 1]? = some x → aI g (M.f 50) i = nI (x - 1) := h.2.2.2.2.2.2.2.2.2.2.2.2.2.2.2.2
theorem RMc.mk {G : AG} {M : MA} {g : Sg} (h0 : fI g 29 M.gr = nI G.ne) (h1 : fI g 30 M.gr = nI G.na) (h2 : fI g 31 M.gr = nI ((od G).length - 1)) (h3 : chI (aI g (M.f 42)) (fI g 46 M.gr) ((G.k 0 true).map (· - 1))) (h4 : ∀ s, s < G.na → aI g (M.f 32) s = nI (G.nm s)) (h5 : ∀ s, s < 16 → aI g (M.f 33) s = nI (if s < G.na then G.ct s else 0)) (h6 : ∀ s n, s < G.na → n < G.ct s → aI g (M.rw s) n = nI (G.ev s n)) (h7 : ∀ s, s < G.na → G.ct s ≤ M.rl s) (h8 : ∀ e, e < G.ne → aI g (M.f 35) e = nI (G.sl e)) (h9 : ∀ e, e < G.ne → aI g (M.f 36) e = nI (G.nu e)) (h10 : ∀ e s, e < G.ne → s < 16 → aI g (M.f 37) (16 * e + s) = nI (G.pa e s)) (h11 : ∀ e, e < G.ne → e ≠ M.ho → aI g (M.f 38) e = if G.ins e = true then 1 else 0) (h12 : ∀ e, e < G.ne → G.ins e = true → aI g (M.f 40) e = G.cd e) (h13 : ∀ e, e < G.ne → G.ins e = true → chI (aI g (M.f 42)) (aI g (M.f 43) e) ((G.k (e + 1) false).map (· - 1))) (h14 : ∀ e, e < G.ne → G.ins e = true → chI (aI g (M.f 42)) (aI g (M.f 44) e) ((G.k (e + 1) true).map (· - 1))) (h15 : ∀ e, e < G.ne → G.ins e = true → chI (aI g (M.f 48)) (aI g (M.f 49) e) (G.de e)) (h16 : ∀ i x, (od G)[i + 1]? = some x → aI g (M.f 50) i = nI (x - 1)) : RMc G M g := ⟨h0, h1, h2, h3, h4, h5, h6, h7, h8, h9, h10, h11, h12, h13, h14, h15, h16⟩
def RM (G : AG) (M : MA) (g : Sg) : Prop := (RMk M (hT g)) ∧ (RMf M g) ∧ (RMc G M g)
theorem RM.k {G : AG} {M : MA} {g : Sg} (h : RM G M g) : RMk M (hT g) := h.1
theorem RM.f {G : AG} {M : MA} {g : Sg} (h : RM G M g) : RMf M g := h.2.1
theorem RM.c {G : AG} {M : MA} {g : Sg} (h : RM G M g) : RMc G M g := h.2.2
theorem RM.mk {G : AG} {M : MA} {g : Sg} (h0 : RMk M (hT g)) (h1 : RMf M g) (h2 : RMc G M g) : RM G M g := ⟨h0, h1, h2⟩
def RMi (G : AG) (M : MA) (L : List Nat) (g : Sg) : Prop := (fI g 54 M.m = nI L.length) ∧ (L.length ≤ 16) ∧ (∀ e ∈ L, e < G.ne) ∧ (L.Nodup) ∧ (∀ (i e : Nat), L[i]? = some e → aI g (M.f 52) i = nI e)
theorem RMi.n {G : AG} {M : MA} {L : List Nat} {g : Sg} (h : RMi G M L g) : fI g 54 M.m = nI L.length := h.1
theorem RMi.le {G : AG} {M : MA} {L : List Nat} {g : Sg} (h : RMi G M L g) : L.length ≤ 16 := h.2.1
theorem RMi.lt {G : AG} {M : MA} {L : List Nat} {g : Sg} (h : RMi G M L g) : ∀ e ∈ L, e < G.ne := h.2.2.1
theorem RMi.nd {G : AG} {M : MA} {L : List Nat} {g : Sg} (h : RMi G M L g) : L.Nodup := h.2.2.2.1
theorem RMi.at {G : AG} {M : MA} {L : List Nat} {g : Sg} (h : RMi G M L g) : ∀ (i e : Nat), L[i]? = some e → aI g (M.f 52) i = nI e := h.2.2.2.2
theorem RMi.mk {G : AG} {M : MA} {L : List Nat} {g : Sg} (h0 : fI g 54 M.m = nI L.length) (h1 : L.length ≤ 16) (h2 : ∀ e ∈ L, e < G.ne) (h3 : L.Nodup) (h4 : ∀ (i e : Nat), L[i]? = some e → aI g (M.f 52) i = nI e) : RMi G M L g := ⟨h0, h1, h2, h3, h4⟩
