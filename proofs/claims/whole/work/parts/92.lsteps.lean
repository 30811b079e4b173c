section LAW
variable {z mi mc ms : Nat} {G G2 : AG} {A A2 : CA} {M M2 : MA} {g g1 g2 : Sg} {L1 L2 : List Nat} {o L : Nat} {xs : Nat → Int32} {K : Nat → Nat → Sg → Option Nat → Option Nat → Option Nat → Int32 → Prop} {kc ks j : Nat}
theorem ix1 (j : Nat) : nI j + 1 = nI (j + 1) := nI_1 j
theorem ix2 (j : Nat) : nI j + 2 = nI (j + 2) := by have : (2 : Int32) = nI 2 := rfl; rw [this, nI_add]
theorem ix3 (j : Nat) : nI j + 3 = nI (j + 3) := by have : (3 : Int32) = nI 3 := rfl; rw [this, nI_add]
theorem ix4 (j : Nat) : nI j + 4 = nI (j + 4) := by have : (4 : Int32) = nI 4 := rfl; rw [this, nI_add]
theorem ix5 (j : Nat) : nI j + 5 = nI (j + 5) := by have : (5 : Int32) = nI 5 := rfl; rw [this, nI_add]
theorem th0 : fI (wI g 56 M.m 0) 56 M.m = 0 := by rw [fI_wI]; simp
theorem th1 (w : Int32) : fI (wI (wI g 56 M.m 0) 56 M.m w) 56 M.m = w := by rw [fI_wI]; simp
theorem ov (v : Int64) : aL (wI (sL g o 0 v) 56 M.m 0) o 0 = v := aL_sL9 g o 0 v
def nxt (z : Nat) (G : AG) (A : CA) (M : MA) (o : Nat) (K : Nat → Nat → Sg → Option Nat → Option Nat → Option Nat → Int32 → Prop) (kc ks j : Nat) : Prop := ∀ L1 L2 g2 kc2 ks2, kc2 ≤ kc + 2 → ks2 ≤ ks + 12 → LI z G A M L1 L2 o g2 → (∀ e, e ∈ L1 ↔ e ∈ L2) → L1.length = L2.length → K kc2 ks2 g2 (some A.c) (some M.m) (some o) (nI j + 5)
theorem l_at (h : LI z G A M L1 L2 o g) (he : ∀ e, e ∈ L1 ↔ e ∈ L2) (hl : L1.length = L2.length) (hj : j + 4 < L) (hkc : kc + 2 ≤ mc) (hks : ks + 12 ≤ ms) (k : nxt z G A M o K kc ks j) : w_L_law_414 z mi mc ms L xs K kc ks g (some A.c) (some M.m) (some o) (nI j) := by
  have hne := h.w.ne_le
  unfold w_L_law_414
  refine ⟨j + 1, ix1 j, by omega, ?_⟩
  rintro _ rfl
  refine ⟨1, 6, by omega, by omega, ?_⟩
  unfold w_L_at
  refine ⟨_, rfl, ⟨_, _, h.c.k.c, by decide⟩, 1, 6, by omega, by omega, ?_⟩
  refine t_at h.w h.c (by omega) (by omega) (fun hx => ⟨rfl, ?_⟩) (fun e hE => ⟨_, rfl, 0, ⟨1, h.ko, rfl, by decide, by decide⟩, fun g20 e20 => ?_⟩)
  · skip
    refine ⟨j + 1, ix1 j, by omega, ?_⟩
    rintro _ rfl
    refine ⟨_, rfl, ⟨_, _, h.m.k.m, by decide⟩, 1, 6, by omega, by omega, ?_⟩
    refine t_Mat h.w h.m (by omega) (by omega) (fun e hE => absurd hE (hx e)) (fun _ => ?_)
    have h2 := (h.w56 0).w56 1
    exact t_tail h2.m h2.ko (th1 1) (fun h0 => absurd h0 (by decide)) (by omega) (by omega) (k _ _ _ _ _ (by omega) (by omega) h2 he hl)
  · skip
    subst e20
    have h1 := h.sL (G.cd e).toInt64
    refine ⟨j + 1, ix1 j, by omega, ?_⟩
    rintro _ rfl
    refine ⟨_, rfl, ⟨_, _, h1.m.k.m, by decide⟩, 1, 6, by omega, by omega, ?_⟩
    refine t_Mat h1.w h1.m (by omega) (by omega) (fun e' hE' => ?_) (fun hn => absurd hE (hn e))
    rw [← tA_uq9 hE hE']
    have h2 := h1.w56 0
    exact t_tail h2.m h2.ko th0 (fun _ => ov _) (by omega) (by omega) (k _ _ _ _ _ (by omega) (by omega) h2 he hl)
theorem l_who (h : LI z G A M L1 L2 o g) (he : ∀ e, e ∈ L1 ↔ e ∈ L2) (hl : L1.length = L2.length) (hj : j + 4 < L) (hkc : kc + 2 ≤ mc) (hks : ks + 12 ≤ ms) (k : nxt z G A M o K kc ks j) : w_L_law_470 z mi mc ms L xs K kc ks g (some A.c) (some M.m) (some o) (nI j) := by
  have hne := h.w.ne_le
  unfold w_L_law_470
  refine ⟨j + 1, ix1 j, by omega, ?_⟩
  rintro _ rfl
  refine ⟨1, 6, by omega, by omega, ?_⟩
  unfold w_L_who
  refine ⟨_, rfl, ⟨_, _, h.c.k.c, by decide⟩, 1, 6, by omega, by omega, ?_⟩
  refine t_who h.w h.c (by omega) (by omega) (fun hx => ⟨rfl, ?_⟩) (fun e hE => ⟨_, rfl, 0, ⟨1, h.ko, rfl, by decide, by decide⟩, fun g20 e20 => ?_⟩)
  · skip
    refine ⟨j + 1, ix1 j, by omega, ?_⟩
    rintro _ rfl
    refine ⟨_, rfl, ⟨_, _, h.m.k.m, by decide⟩, 1, 6, by omega, by omega, ?_⟩
    refine t_Mwho h.w h.m (by omega) (by omega) (fun e hE => absurd hE (hx e)) (fun _ => ?_)
    have h2 := (h.w56 0).w56 1
    exact t_tail h2.m h2.ko (th1 1) (fun h0 => absurd h0 (by decide)) (by omega) (by omega) (k _ _ _ _ _ (by omega) (by omega) h2 he hl)
  · skip
    subst e20
    have h1 := h.sL ((4294967296 : Int64) * (nI (G.nm (G.sl e))).toInt64 + (nI (G.nu e)).toInt64)
    refine ⟨j + 1, ix1 j, by omega, ?_⟩
    rintro _ rfl
    refine ⟨_, rfl, ⟨_, _, h1.m.k.m, by decide⟩, 1, 6, by omega, by omega, ?_⟩
    refine t_Mwho h1.w h1.m (by omega) (by omega) (fun e' hE' => ?_) (fun hn => absurd hE (hn e))
    rw [← tA_uq9 hE hE']
    have h2 := h1.w56 0
    exact t_tail h2.m h2.ko th0 (fun _ => ov _) (by omega) (by omega) (k _ _ _ _ _ (by omega) (by omega) h2 he hl)
theorem l_was (h : LI z G A M L1 L2 o g) (he : ∀ e, e ∈ L1 ↔ e ∈ L2) (hl : L1.length = L2.length) (hj : j + 4 < L) (hkc : kc + 2 ≤ mc) (hks : ks + 12 ≤ ms) (k : nxt z G A M o K kc ks j) : w_L_law_593 z mi mc ms L xs K kc ks g (some A.c) (some M.m) (some o) (nI j) := by
  have hne := h.w.ne_le
  unfold w_L_law_593
  refine ⟨j + 1, ix1 j, by omega, ?_⟩
  rintro _ rfl
  refine ⟨1, 6, by omega, by omega, ?_⟩
  unfold w_L_was
  refine ⟨_, rfl, ⟨_, _, h.c.k.c, by decide⟩, 1, 6, by omega, by omega, ?_⟩
  refine t_was h.w h.c (by omega) (by omega) (fun hx => ⟨rfl, ?_⟩) (fun n hn hy => ⟨_, rfl, 0, ⟨1, h.ko, rfl, by decide, by decide⟩, fun g20 e20 => ?_⟩)
  · skip
    refine ⟨j + 1, ix1 j, by omega, ?_⟩
    rintro _ rfl
    refine ⟨_, rfl, ⟨_, _, h.m.k.m, by decide⟩, 1, 6, by omega, by omega, ?_⟩
    refine t_Mwas h.w h.m (by omega) (by omega) (fun n hn hy => absurd hy (hx n hn)) (fun _ => ?_)
    have h2 := (h.w56 0).w56 1
    exact t_tail h2.m h2.ko (th1 1) (fun h0 => absurd h0 (by decide)) (by omega) (by omega) (k _ _ _ _ _ (by omega) (by omega) h2 he hl)
  · skip
    subst e20
    have h1 := h.sL (nI (txL G n)).toInt64
    refine ⟨j + 1, ix1 j, by omega, ?_⟩
    rintro _ rfl
    refine ⟨_, rfl, ⟨_, _, h1.m.k.m, by decide⟩, 1, 6, by omega, by omega, ?_⟩
    refine t_Mwas h1.w h1.m (by omega) (by omega) (fun n' hn' hy' => ?_) (fun hx => absurd hy (hx n hn))
    rw [← (eI (by omega) (by omega)).mp (hy.symm.trans hy')]
    have h2 := h1.w56 0
    exact t_tail h2.m h2.ko th0 (fun _ => ov _) (by omega) (by omega) (k _ _ _ _ _ (by omega) (by omega) h2 he hl)
theorem l_wasAt (h : LI z G A M L1 L2 o g) (he : ∀ e, e ∈ L1 ↔ e ∈ L2) (hl : L1.length = L2.length) (hj : j + 4 < L) (hkc : kc + 2 ≤ mc) (hks : ks + 12 ≤ ms) (k : nxt z G A M o K kc ks j) : w_L_law_649 z mi mc ms L xs K kc ks g (some A.c) (some M.m) (some o) (nI j) := by
  have hne := h.w.ne_le
  unfold w_L_law_649
  refine ⟨j + 1, ix1 j, by omega, ?_⟩
  rintro _ rfl
  refine ⟨j + 2, ix2 j, by omega, ?_⟩
  rintro _ rfl
  refine ⟨1, 6, by omega, by omega, ?_⟩
  unfold w_L_wasAt
  refine ⟨_, rfl, ⟨_, _, h.c.k.c, by decide⟩, 1, 6, by omega, by omega, ?_⟩
  refine t_wasAt h.w h.c (by omega) (by omega) (fun hx => ⟨rfl, ?_⟩) (fun n e hn hy hE => ⟨_, rfl, 0, ⟨1, h.ko, rfl, by decide, by decide⟩, fun g20 e20 => ?_⟩)
  · skip
    refine ⟨j + 1, ix1 j, by omega, ?_⟩
    rintro _ rfl
    refine ⟨j + 2, ix2 j, by omega, ?_⟩
    rintro _ rfl
    refine ⟨_, rfl, ⟨_, _, h.m.k.m, by decide⟩, 1, 6, by omega, by omega, ?_⟩
    refine t_MwasAt h.w h.m (by omega) (by omega) (fun _ => ?_) (fun n e hn hy hE => absurd hE (hx n e hn hy))
    have h2 := (h.w56 0).w56 1
    exact t_tail h2.m h2.ko (th1 1) (fun h0 => absurd h0 (by decide)) (by omega) (by omega) (k _ _ _ _ _ (by omega) (by omega) h2 he hl)
  · skip
    subst e20
    have h1 := h.sL (G.cd e).toInt64
    refine ⟨j + 1, ix1 j, by omega, ?_⟩
    rintro _ rfl
    refine ⟨j + 2, ix2 j, by omega, ?_⟩
    rintro _ rfl
    refine ⟨_, rfl, ⟨_, _, h1.m.k.m, by decide⟩, 1, 6, by omega, by omega, ?_⟩
    refine t_MwasAt h1.w h1.m (by omega) (by omega) (fun hx => absurd hE (hx n e hn hy)) (fun n' e' hn' hy' hE' => ?_)
    rw [← (eI (by omega) (by omega)).mp (hy.symm.trans hy')] at hE'
    rw [← tA_uq9 hE hE']
    have h2 := h1.w56 0
    exact t_tail h2.m h2.ko th0 (fun _ => ov _) (by omega) (by omega) (k _ _ _ _ _ (by omega) (by omega) h2 he hl)
theorem l_line (h : LI z G A M L1 L2 o g) (he : ∀ e, e ∈ L1 ↔ e ∈ L2) (hl : L1.length = L2.length) (hj : j + 4 < L) (hkc : kc + 2 ≤ mc) (hks : ks + 12 ≤ ms) (k : nxt z G A M o K kc ks j) : w_L_law_717 z mi mc ms L xs K kc ks g (some A.c) (some M.m) (some o) (nI j) := by
  have hne := h.w.ne_le
  unfold w_L_law_717
  refine ⟨j + 1, ix1 j, by omega, ?_⟩
  rintro _ rfl
  refine ⟨1, 6, by omega, by omega, ?_⟩
  unfold w_L_line
  refine ⟨_, rfl, ⟨_, _, h.c.k.c, by decide⟩, 1, 6, by omega, by omega, ?_⟩
  refine t_line h.w h.c (by omega) (by omega) (fun hx => ⟨rfl, ?_⟩) (fun r hr => ⟨_, rfl, 0, ⟨1, h.ko, rfl, by decide, by decide⟩, fun g20 e20 => ?_⟩)
  · skip
    refine ⟨j + 1, ix1 j, by omega, ?_⟩
    rintro _ rfl
    refine ⟨_, rfl, ⟨_, _, h.m.k.m, by decide⟩, 1, 6, by omega, by omega, ?_⟩
    refine t_Mline h.w h.m (by omega) (by omega) (fun _ => ?_) (fun r hr => absurd (lnR_uq h.w hr hx) (fun h => nomatch h))
    have h2 := (h.w56 0).w56 1
    exact t_tail h2.m h2.ko (th1 1) (fun h0 => absurd h0 (by decide)) (by omega) (by omega) (k _ _ _ _ _ (by omega) (by omega) h2 he hl)
  · skip
    subst e20
    have h1 := h.sL r.toInt64
    refine ⟨j + 1, ix1 j, by omega, ?_⟩
    rintro _ rfl
    refine ⟨_, rfl, ⟨_, _, h1.m.k.m, by decide⟩, 1, 6, by omega, by omega, ?_⟩
    refine t_Mline h1.w h1.m (by omega) (by omega) (fun hx => absurd (lnR_uq h.w hr hx) (fun h => nomatch h)) (fun r' hr' => ?_)
    have er : r = r' := by have := lnR_uq h.w hr hr'; injection this
    rw [← er]
    have h2 := h1.w56 0
    exact t_tail h2.m h2.ko th0 (fun _ => ov _) (by omega) (by omega) (k _ _ _ _ _ (by omega) (by omega) h2 he hl)
theorem l_spot (h : LI z G A M L1 L2 o g) (he : ∀ e, e ∈ L1 ↔ e ∈ L2) (hl : L1.length = L2.length) (hj : j + 4 < L) (hkc : kc + 2 ≤ mc) (hks : ks + 12 ≤ ms) (k : nxt z G A M o K kc ks j) : w_L_law_525 z mi mc ms L xs K kc ks g (some A.c) (some M.m) (some o) (nI j) := by
  have hne := h.w.ne_le
  unfold w_L_law_525
  refine ⟨j + 1, ix1 j, by omega, ?_⟩
  rintro _ rfl
  refine ⟨j + 2, ix2 j, by omega, ?_⟩
  rintro _ rfl
  refine ⟨1, 6, by omega, by omega, ?_⟩
  unfold w_L_spot
  refine ⟨_, rfl, ⟨_, _, h.c.k.c, by decide⟩, 1, 6, by omega, by omega, ?_⟩
  refine t_spot h.w h.c (by omega) (by omega) (fun hx => Or.inl ⟨rfl, ?_⟩) (fun e hE hi => Or.inr ⟨rfl, ?_⟩) (fun e u v hE hi hu => ⟨_, rfl, 0, ⟨1, h.ko, rfl, by decide, by decide⟩, fun g20 e20 => ?_⟩)
  · skip
    refine ⟨j + 1, ix1 j, by omega, ?_⟩
    rintro _ rfl
    refine ⟨j + 2, ix2 j, by omega, ?_⟩
    rintro _ rfl
    refine ⟨_, rfl, ⟨_, _, h.m.k.m, by decide⟩, 1, 6, by omega, by omega, ?_⟩
    refine t_Mspot h.w h.m (by rw [h.ho]; exact Nat.le_refl _) (by omega) (by omega) (fun _ => ?_) (fun e hE _ => absurd hE (hx e)) (fun e u v hE _ _ => absurd hE (hx e))
    have h2 := (h.w56 0).w56 1
    exact t_tail h2.m h2.ko (th1 1) (fun h0 => absurd h0 (by decide)) (by omega) (by omega) (k _ _ _ _ _ (by omega) (by omega) h2 he hl)
  · skip
    refine ⟨j + 1, ix1 j, by omega, ?_⟩
    rintro _ rfl
    refine ⟨j + 2, ix2 j, by omega, ?_⟩
    rintro _ rfl
    refine ⟨_, rfl, ⟨_, _, h.m.k.m, by decide⟩, 1, 6, by omega, by omega, ?_⟩
    refine t_Mspot h.w h.m (by rw [h.ho]; exact Nat.le_refl _) (by omega) (by omega) (fun hx => absurd hE (hx e)) (fun e' hE' _ => ?_) (fun e' u v hE' hi' _ => by rw [fE_uq h.w hE' hE, hi] at hi'; cases hi')
    have h2 := (h.w56 0).w56 2
    exact t_tail h2.m h2.ko (th1 2) (fun h0 => absurd h0 (by decide)) (by omega) (by omega) (k _ _ _ _ _ (by omega) (by omega) h2 he hl)
  · skip
    subst e20
    have h1 := h.sL (nI u.length).toInt64
    refine ⟨j + 1, ix1 j, by omega, ?_⟩
    rintro _ rfl
    refine ⟨j + 2, ix2 j, by omega, ?_⟩
    rintro _ rfl
    refine ⟨_, rfl, ⟨_, _, h1.m.k.m, by decide⟩, 1, 6, by omega, by omega, ?_⟩
    refine t_Mspot h1.w h1.m (by rw [h1.ho]; exact Nat.le_refl _) (by omega) (by omega) (fun hx => absurd hE (hx e)) (fun e' hE' hi' => by rw [fE_uq h.w hE' hE, hi] at hi'; cases hi') (fun e' u' v' hE' hi' hu' => ?_)
    have ee := fE_uq h.w hE hE'
    subst ee
    have hnd := h.w.nodup
    rw [hu] at hnd
    have eu := (mid_uq u u' v v' (List.nodup_cons.mp hnd).2 (by have := hu.symm.trans hu'; simpa using this)).1
    rw [← eu]
    have h2 := h1.w56 0
    exact t_tail h2.m h2.ko th0 (fun _ => ov _) (by omega) (by omega) (k _ _ _ _ _ (by omega) (by omega) h2 he hl)
theorem l_events (h : LI z G A M L1 L2 o g) (he : ∀ e, e ∈ L1 ↔ e ∈ L2) (hl : L1.length = L2.length) (hj : j + 4 < L) (hkc : kc + 2 ≤ mc) (hks : ks + 12 ≤ ms) (k : nxt z G A M o K kc ks j) : w_L_law_773 z mi mc ms L xs K kc ks g (some A.c) (some M.m) (some o) (nI j) := by
  have hne := h.w.ne_le
  unfold w_L_law_773
  refine ⟨j + 1, ix1 j, by omega, ?_⟩
  rintro _ rfl
  refine ⟨1, 6, by omega, by omega, ?_⟩
  unfold w_L_events
  refine ⟨_, rfl, ⟨_, _, h.c.k.c, by decide⟩, 1, 6, by omega, by omega, ?_⟩
  refine t_events h.w h.c (by omega) (by omega) (fun hx => ⟨_, rfl, 0, ⟨1, h.ko, rfl, by decide, by decide⟩, fun g20 e20 => ?_⟩) (fun h1 h2 => ⟨rfl, ?_⟩) (fun s hs hn => ⟨_, rfl, 0, ⟨1, h.ko, rfl, by decide, by decide⟩, fun g20 e20 => ?_⟩) (fun a ha hx hn => ⟨_, rfl, 0, ⟨1, h.ko, rfl, by decide, by decide⟩, fun g20 e20 => ?_⟩)
  · skip
    subst e20
    have h1 := h.sL (nI G.ne).toInt64
    refine ⟨j + 1, ix1 j, by omega, ?_⟩
    rintro _ rfl
    refine ⟨_, rfl, ⟨_, _, h1.m.k.m, by decide⟩, 1, 6, by omega, by omega, ?_⟩
    refine t_Mevents h1.w h1.m (by omega) (by omega) (fun _ => ?_) (fun hn _ => absurd hx hn) (fun s hs hn => absurd (hn.trans hx) (nI_m1 (by have := h.w.nm_le s hs; omega))) (fun a ha hy _ => absurd (hy.symm.trans hx) (nI_m1 (by omega)))
    have h2 := h1.w56 0
    exact t_tail h2.m h2.ko th0 (fun _ => ov _) (by omega) (by omega) (k _ _ _ _ _ (by omega) (by omega) h2 he hl)
  · skip
    refine ⟨j + 1, ix1 j, by omega, ?_⟩
    rintro _ rfl
    refine ⟨_, rfl, ⟨_, _, h.m.k.m, by decide⟩, 1, 6, by omega, by omega, ?_⟩
    refine t_Mevents h.w h.m (by omega) (by omega) (fun hx => absurd hx h1) (fun _ _ => ?_) (fun s hs hn => absurd hn.symm (h2 _ (h.w.nm_le s hs))) (fun a ha hy _ => absurd hy (h2 a ha))
    have h2 := (h.w56 0).w56 1
    exact t_tail h2.m h2.ko (th1 1) (fun h0 => absurd h0 (by decide)) (by omega) (by omega) (k _ _ _ _ _ (by omega) (by omega) h2 he hl)
  · skip
    subst e20
    have h1 := h.sL (nI (G.ct s)).toInt64
    refine ⟨j + 1, ix1 j, by omega, ?_⟩
    rintro _ rfl
    refine ⟨_, rfl, ⟨_, _, h1.m.k.m, by decide⟩, 1, 6, by omega, by omega, ?_⟩
    refine t_Mevents h1.w h1.m (by omega) (by omega) (fun hx => absurd (hn.trans hx) (nI_m1 (by have := h.w.nm_le s hs; omega))) (fun _ h2 => absurd hn.symm (h2 _ (h.w.nm_le s hs))) (fun s' hs' hn' => ?_) (fun a ha hy hno => absurd hn (hno s hs))
    have es : s' = s := h.w.nm_inj s' s hs' hs ((eI (by have := h.w.nm_le s' hs'; omega) (by have := h.w.nm_le s hs; omega)).mp (hn'.trans hn.symm))
    rw [es]
    have h2 := h1.w56 0
    exact t_tail h2.m h2.ko th0 (fun _ => ov _) (by omega) (by omega) (k _ _ _ _ _ (by omega) (by omega) h2 he hl)
  · skip
    subst e20
    have h1 := h.sL (0 : Int32).toInt64
    refine ⟨j + 1, ix1 j, by omega, ?_⟩
    rintro _ rfl
    refine ⟨_, rfl, ⟨_, _, h1.m.k.m, by decide⟩, 1, 6, by omega, by omega, ?_⟩
    refine t_Mevents h1.w h1.m (by omega) (by omega) (fun hy => absurd (hx.symm.trans hy) (nI_m1 (by omega))) (fun _ h2 => absurd hx (h2 a ha)) (fun s hs hn' => absurd hn' (hn s hs)) (fun a' ha' hy _ => ?_)
    have h2 := h1.w56 0
    exact t_tail h2.m h2.ko th0 (fun _ => ov _) (by omega) (by omega) (k _ _ _ _ _ (by omega) (by omega) h2 he hl)
theorem l_length (h : LI z G A M L1 L2 o g) (he : ∀ e, e ∈ L1 ↔ e ∈ L2) (hl : L1.length = L2.length) (hj : j + 4 < L) (hkc : kc + 2 ≤ mc) (hks : ks + 12 ≤ ms) (k : nxt z G A M o K kc ks j) : w_L_law_401 z mi mc ms L xs K kc ks g (some A.c) (some M.m) (some o) (nI j) := by
  unfold w_L_law_401
  refine ⟨_, rfl, ⟨_, _, h.c.k.c, by decide⟩, 0, 0, by omega, by omega, ?_⟩
  refine t_length h.c ?_
  refine ⟨_, rfl, ⟨_, _, h.m.k.m, by decide⟩, 0, 0, by omega, by omega, ?_⟩
  refine t_Mlength h.w h.m ?_
  exact ⟨fun _ => k _ _ _ _ _ (by omega) (by omega) (h.w56 0) he hl, fun hn => hn rfl⟩
theorem l_heads (h : LI z G A M L1 L2 o g) (hj : j + 4 < L) (hkc : kc + 2 ≤ mc) (hks : ks + 12 ≤ ms) (k : nxt z G A M o K kc ks j) : w_L_law_172 z mi mc ms L xs K kc ks g (some A.c) (some M.m) (some o) (nI j) := by
  unfold w_L_law_172
  refine ⟨_, rfl, ⟨_, _, h.c.k.c, by decide⟩, 0, 0, by omega, by omega, ?_⟩
  refine t_heads h.w h.c (fun g2 hR2 hL2 hf2 => ?_)
  have h2 := h.cs hf2 hR2 hL2
  refine ⟨_, rfl, ⟨_, _, h2.m.k.m, by decide⟩, 0, 0, by omega, by omega, ?_⟩
  refine t_Mheads h2.w h2.m (fun K2 g3 hK16 hKn hKm hKl hR3 hL3 hf3 h56 => ?_)
  rw [hKl]
  exact ⟨fun _ => k _ _ _ _ _ (by omega) (by omega) (h2.mo hf3 hR3 hL3) (fun e => (hKm e).symm) hKl.symm, fun hn => hn rfl⟩
theorem l_seen (h : LI z G A M L1 L2 o g) (he : ∀ e, e ∈ L1 ↔ e ∈ L2) (hl : L1.length = L2.length) (hj : j + 4 < L) (hkc : kc + 2 ≤ mc) (hks : ks + 12 ≤ ms) (k : nxt z G A M o K kc ks j) : w_L_law_185 z mi mc ms L xs K kc ks g (some A.c) (some M.m) (some o) (nI j) := by
  unfold w_L_law_185
  refine ⟨1, 6, by omega, by omega, ?_⟩
  unfold w_L_seen
  refine ⟨_, rfl, ⟨_, _, h.c.k.c, by decide⟩, 1, 6, by omega, by omega, ?_⟩
  refine t_seen h.w h.c h.ci (by omega) (by omega) (fun ht => ⟨rfl, ?_⟩) (fun ht g2 hR2 hL2 hf2 => ?_)
  · refine ⟨_, rfl, ⟨_, _, h.m.k.m, by decide⟩, 1, 6, by omega, by omega, ?_⟩
    refine t_Mseen h.w h.m h.ml (by omega) (by omega) (fun _ g3 hR3 hL3 hf3 h56 => ?_) (fun hn => absurd ((tg_perm he).mp ht) hn)
    have h2 := h.mo hf3 hR3 hL3
    exact t_tail h2.m h2.ko h56 (fun h0 => absurd h0 (by decide)) (by omega) (by omega) (k _ _ _ _ _ (by omega) (by omega) h2 he hl)
  · have h2 := h.cs hf2 hR2 hL2
    refine ⟨_, rfl, 0, ⟨1, h2.ko, rfl, by decide, by decide⟩, ?_⟩
    rintro _ rfl
    have h3 := h2.sL ((nI (seL G (vL G L1)).length).toInt64)
    refine ⟨_, rfl, ⟨_, _, h3.m.k.m, by decide⟩, 1, 6, by omega, by omega, ?_⟩
    refine t_Mseen h3.w h3.m h3.ml (by omega) (by omega) (fun ht' => absurd ((tg_perm he).mpr ht') ht) (fun _ g4 hR4 hL4 hf4 h56 => ?_)
    have h4 := h3.mo hf4 hR4 hL4
    rw [← vL_perm he]
    refine t_tail h4.m h4.ko h56 (fun _ => ?_) (by omega) (by omega) (k _ _ _ _ _ (by omega) (by omega) h4 he hl)
    rw [hf4.al _ (nn h3.ko)]
    exact aL_sL9 _ _ _ _
theorem l_parent (h : LI z G A M L1 L2 o g) (he : ∀ e, e ∈ L1 ↔ e ∈ L2) (hl : L1.length = L2.length) (hj : j + 4 < L) (hkc : kc + 2 ≤ mc) (hks : ks + 12 ≤ ms) (k : nxt z G A M o K kc ks j) : w_L_law_104 z mi mc ms L xs K kc ks g (some A.c) (some M.m) (some o) (nI j) := by
  unfold w_L_law_104
  refine ⟨j + 1, ix1 j, by omega, ?_⟩
  rintro _ rfl
  refine ⟨j + 2, ix2 j, by omega, ?_⟩
  rintro _ rfl
  refine ⟨1, 6, by omega, by omega, ?_⟩
  unfold w_L_parent
  refine ⟨_, rfl, ⟨_, _, h.c.k.c, by decide⟩, 1, 6, by omega, by omega, ?_⟩
  refine t_parent h.w h.c h.ci (by omega) (by omega) (fun hx => Or.inl ⟨rfl, ?_⟩) (fun e hE hm => Or.inr (Or.inl ⟨rfl, ?_⟩)) (fun e hE hm h16 => Or.inr (Or.inr ⟨rfl, ?_⟩)) (fun e g2 hE hen hm h16 hR2 hL2 hf2 => ?_)
  · skip
    refine ⟨j + 1, ix1 j, by omega, ?_⟩
    rintro _ rfl
    refine ⟨j + 2, ix2 j, by omega, ?_⟩
    rintro _ rfl
    refine ⟨_, rfl, ⟨_, _, h.m.k.m, by decide⟩, 1, 6, by omega, by omega, ?_⟩
    refine t_Mparent h.w h.m h.ml (by omega) (by omega) (fun _ => ?_) (fun e hE _ => absurd hE (hx e)) (fun e hE _ _ => absurd hE (hx e)) (fun e g2 hE _ _ _ _ _ _ => absurd hE (hx e))
    have h2 := (h.w56 0).w56 1
    exact t_tail h2.m h2.ko (th1 1) (fun h0 => absurd h0 (by decide)) (by omega) (by omega) (k _ _ _ _ _ (by omega) (by omega) h2 he hl)
  · skip
    refine ⟨j + 1, ix1 j, by omega, ?_⟩
    rintro _ rfl
    refine ⟨j + 2, ix2 j, by omega, ?_⟩
    rintro _ rfl
    refine ⟨_, rfl, ⟨_, _, h.m.k.m, by decide⟩, 1, 6, by omega, by omega, ?_⟩
    refine t_Mparent h.w h.m h.ml (by omega) (by omega) (fun hx => absurd hE (hx e)) (fun e' hE' _ => ?_) (fun e' hE' hn _ => absurd ((he e).mp hm) (by rw [fE_uq h.w hE hE']; exact hn)) (fun e' g2 hE' hn _ _ _ _ _ => absurd ((he e).mp hm) (by rw [fE_uq h.w hE hE']; exact hn))
    have h2 := (h.w56 0).w56 2
    exact t_tail h2.m h2.ko (th1 2) (fun h0 => absurd h0 (by decide)) (by omega) (by omega) (k _ _ _ _ _ (by omega) (by omega) h2 he hl)
  · skip
    refine ⟨j + 1, ix1 j, by omega, ?_⟩
    rintro _ rfl
    refine ⟨j + 2, ix2 j, by omega, ?_⟩
    rintro _ rfl
    refine ⟨_, rfl, ⟨_, _, h.m.k.m, by decide⟩, 1, 6, by omega, by omega, ?_⟩
    refine t_Mparent h.w h.m h.ml (by omega) (by omega) (fun hx => absurd hE (hx e)) (fun e' hE' hm' => absurd ((he e').mpr hm') (by rw [← fE_uq h.w hE hE']; exact hm)) (fun e' hE' hn _ => ?_) (fun e' g2 hE' hn h15 _ _ _ _ => absurd h15 (by omega))
    have h2 := (h.w56 0).w56 3
    exact t_tail h2.m h2.ko (th1 3) (fun h0 => absurd h0 (by decide)) (by omega) (by omega) (k _ _ _ _ _ (by omega) (by omega) h2 he hl)
  · have h2 := h.cs hf2 hR2 hL2
    refine ⟨_, rfl, 0, ⟨1, h2.ko, rfl, by decide, by decide⟩, ?_⟩
    rintro _ rfl
    have h3 := h2.sL ((nI (L1.length + 1)).toInt64)
    refine ⟨j + 1, ix1 j, by omega, ?_⟩
    rintro _ rfl
    refine ⟨j + 2, ix2 j, by omega, ?_⟩
    rintro _ rfl
    refine ⟨_, rfl, ⟨_, _, h3.m.k.m, by decide⟩, 1, 6, by omega, by omega, ?_⟩
    refine t_Mparent h3.w h3.m h3.ml (by omega) (by omega) (fun hx => absurd hE (hx e)) (fun e' hE' hm' => absurd ((he e').mpr hm') (by rw [← fE_uq h.w hE hE']; exact hm)) (fun e' hE' hn h17 => absurd h17 (by omega)) (fun e' g4 hE' hn _ hR4 hL4 hf4 h56 => ?_)
    have ee := fE_uq h.w hE hE'
    subst ee
    have h4 := h3.mo hf4 hR4 hL4
    rw [← hl]
    refine t_tail h4.m h4.ko h56 (fun _ => ?_) (by omega) (by omega) (k _ _ _ _ _ (by omega) (by omega) h4 (fun q => ?_) ?_)
    · rw [hf4.al _ (nn h3.ko)]
      exact aL_sL9 _ _ _ _
    · rw [List.mem_append, List.mem_append, he q]
    · rw [List.length_append, List.length_append, hl]
end LAW
