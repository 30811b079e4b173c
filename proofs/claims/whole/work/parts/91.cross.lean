section CRO
variable {z mi mc ms : Nat} {G G2 : AG} {A A2 : CA} {M M2 : MA} {g g1 g2 : Sg} {L L1 L2 : List Nat} {o : Nat}
theorem lg_self (v : Int64) : lg_cmp v v = 0 := by
  unfold lg_cmp
  rw [if_neg (Int64.lt_irrefl (a := v)), if_pos rfl]
theorem rowD_fm {d cap n : Nat} {f : Nat → Nat} (h : fM M g g2) (hr : rowD z (hT g) (aR g) d cap n f) : rowD z (hT g2) (aR g2) d cap n f := by
  obtain ⟨r1, r2, r4, r3⟩ := hr
  refine ⟨r1, r2, r4, ?_⟩
  rcases r3 with q | ⟨q1, q2, q3⟩
  · exact Or.inl q
  · exact Or.inr ⟨q1, by rw [h.t _ (nn q2)]; exact q2, fun i hi => by rw [h.ar _ _ _ q2 (by decide)]; exact q3 i hi⟩
theorem RC.fm (hw : WF G) (hR : RC z G A g) (h : fM M g g2) (hb : ∀ e, e < G.ne → (∀ i, isF i → A.bf e ≠ M.f i) ∧ ∀ s, s < 16 → A.bf e ≠ M.rw s) : RC z G A g2 := by
  have hK := hR.k
  refine RC.mk (hK.lv h.t) (RCf.lv hK hR.f (fun f q hq hf => h.i f q (by omega) hq) (fun f q hq hf => h.r f q (by omega) hq) (h.ar _ _ _ hK.ags (by decide))) ?_ ?_ ?_ ?_ ?_ ?_
  · refine RCl.mk ?_ ?_ (rowD_fm h hR.l.row) (fun s hs => ?_) (fun s hs => ?_) (fun s hs => rowD_fm h (hR.l.hrow s hs))
    · rw [h.i _ _ (by decide) (nn hK.arr)]; exact hR.l.n
    · rw [h.r _ _ (by decide) (nn hK.arr)]; exact hR.l.d
    · rw [h.i _ _ (by decide) (nn (hK.hl s hs))]; exact hR.l.hn s hs
    · rw [h.r _ _ (by decide) (nn (hK.hl s hs))]; exact hR.l.hd s hs
  · refine RCe.mk (fun e he => ?_) (fun e he => ?_) (fun e he => ?_) (fun e he => ?_) (fun e he hi => ?_) (fun e s he hs => ?_) hR.e.pa hR.e.own
    · rw [h.r _ _ (by decide) (nn (hK.ea e he))]; exact hR.e.ag e he
    · rw [h.i _ _ (by decide) (nn (hK.ea e he))]; exact hR.e.nu e he
    · rw [h.r _ _ (by decide) (nn (hK.ea e he))]; exact hR.e.bf e he
    · rw [h.i _ _ (by decide) (nn (hK.ea e he))]; exact hR.e.ar e he
    · rw [h.i _ _ (by decide) (nn (hK.ea e he))]; exact hR.e.cd e he hi
    · rw [h.ai _ (nn (hK.bf e he)) (hb e he).1 (hb e he).2]; exact hR.e.bv e s he hs
  · refine rS_cg (fun p b c hp hc => od_kid hw hp hc) (fun x hx b => ?_) (fun x hx => ?_) hR.s
    · cases b with
      | false => exact h.r 14 _ (by decide) (nd_live hw hK hx)
      | true => exact h.r 15 _ (by decide) (nd_live hw hK hx)
    · exact h.r 16 _ (by decide) (nd_live hw hK hx)
  · exact rO_cg (fun x hx => h.r 17 _ (by decide) (nd_live hw hK hx)) (fun x hx => h.r 18 _ (by decide) (nd_live hw hK hx)) hR.o
  · refine RCd.mk (fun e he hi => ?_) (fun e he hi => ?_)
    · rw [h.r 19 _ (by decide) (nn (hK.ea e he))]
      refine chn_congr _ _ (fun q hq => ?_) (hR.d.ch e he hi)
      obtain ⟨d, hd, rfl⟩ := List.mem_map.mp hq
      exact h.r 12 _ (by decide) (nn (hK.ea d (hw.de_lt e d hd).2.1))
    · rw [h.i 20 _ (by decide) (nn (hK.ea e he))]; exact hR.d.fc e he hi
  · refine ⟨?_, fun e he => ?_⟩
    · rw [h.i 28 _ (by decide) (nn hK.c)]; exact hR.t.1
    · rw [h.i 11 _ (by decide) (nn (hK.ea e he))]; exact hR.t.2 e he
theorem RCi.fm (hK : RCk G A (hT g)) (hL : RCi G A L g) (h : fM M g g2) : RCi G A L g2 := RCi.mk (by rw [h.i 27 _ (by decide) (nn hK.c)]; exact hL.n) hL.le hL.lt hL.nd (fun i e hi => by rw [h.ar _ _ _ hK.li (by decide)]; exact hL.at i e hi)
theorem RM.fc {v : Nat} (hw : WF G) (hR : RM G M g) (h : fC v g g2) (hf : ∀ i, isF i → v ≠ M.f i) (hr : ∀ s, s < 16 → v ≠ M.rw s) : RM G M g2 := by
  have hK := hR.k
  have hna := hw.na_le
  have a : ∀ i, isF i → aI g2 (M.f i) = aI g (M.f i) := fun i hi => h.ai _ (nn (hK.f i hi)) (fun e => hf i hi e.symm)
  have w : ∀ s, s < 16 → aI g2 (M.rw s) = aI g (M.rw s) := fun s hs => h.ai _ (nn (hK.rw s hs)) (fun e => hr s hs e.symm)
  refine RM.mk (RMk.mk (by rw [h.t _ (nn hK.m)]; exact hK.m) (by rw [h.t _ (nn hK.gr)]; exact hK.gr) (fun i hi => by rw [h.t _ (nn (hK.f i hi))]; exact hK.f i hi) (fun s hs => by rw [h.t _ (nn (hK.rw s hs))]; exact hK.rw s hs) hK.rl hK.inj hK.rwf hK.rwi) (RMf.mk ?_ (fun i hi => ?_) ?_ ?_ ?_ (fun s hs => ?_)) (RMc.mk ?_ ?_ ?_ ?_ ?_ ?_ (fun s n hs hn => ?_) hR.c.rl ?_ ?_ ?_ ?_ ?_ ?_ ?_ ?_ ?_)
  · rw [h.r 51 _ (by decide) (nn hK.m)]; exact hR.f.g
  · rw [h.r i _ (by omega) (nn hK.gr)]; exact hR.f.f i hi
  · rw [h.r 52 _ (by decide) (nn hK.m)]; exact hR.f.l
  · rw [h.r 53 _ (by decide) (nn hK.m)]; exact hR.f.t
  · rw [h.r 55 _ (by decide) (nn hK.m)]; exact hR.f.s
  · rw [h.ar _ 16 (hK.f 34 (by decide))]; exact hR.f.rw s hs
  · rw [h.i 29 _ (by decide) (nn hK.gr)]; exact hR.c.ne
  · rw [h.i 30 _ (by decide) (nn hK.gr)]; exact hR.c.na
  · rw [h.i 31 _ (by decide) (nn hK.gr)]; exact hR.c.no
  · rw [h.i 46 _ (by decide) (nn hK.gr), a 42 (by decide)]; exact hR.c.rc
  · rw [a 32 (by decide)]; exact hR.c.nm
  · rw [a 33 (by decide)]; exact hR.c.ct
  · rw [w s (by omega)]; exact hR.c.ev s n hs hn
  · rw [a 35 (by decide)]; exact hR.c.sl
  · rw [a 36 (by decide)]; exact hR.c.nu
  · rw [a 37 (by decide)]; exact hR.c.pa
  · rw [a 38 (by decide)]; exact hR.c.ins
  · rw [a 40 (by decide)]; exact hR.c.cd
  · rw [a 42 (by decide), a 43 (by decide)]; exact hR.c.lc
  · rw [a 42 (by decide), a 44 (by decide)]; exact hR.c.rch
  · rw [a 48 (by decide), a 49 (by decide)]; exact hR.c.de
  · rw [a 50 (by decide)]; exact hR.c.ord
theorem RMi.fc {v : Nat} (hK : RMk M (hT g)) (hL : RMi G M L g) (h : fC v g g2) (hf : ∀ i, isF i → v ≠ M.f i) : RMi G M L g2 := RMi.mk (by rw [h.i 54 _ (by decide) (nn hK.m)]; exact hL.n) hL.le hL.lt hL.nd (fun i e hi => by rw [h.ai _ (nn (hK.f 52 (by decide))) (fun e => hf 52 (by decide) e.symm)]; exact hL.at i e hi)
def LI (z : Nat) (G : AG) (A : CA) (M : MA) (L1 L2 : List Nat) (o : Nat) (g : Sg) : Prop := (WF G) ∧ (RC z G A g) ∧ (RCi G A L1 g) ∧ (RM G M g) ∧ (RMi G M L2 g) ∧ (M.ho = 8192) ∧ (hT g o = some (103, 1)) ∧ (∀ i, isF i → A.vw ≠ M.f i) ∧ (∀ s, s < 16 → A.vw ≠ M.rw s) ∧ (∀ e, e < G.ne → (∀ i, isF i → A.bf e ≠ M.f i) ∧ ∀ s, s < 16 → A.bf e ≠ M.rw s) ∧ (∀ t, G.na ≤ t → A.hc t = 0)
theorem LI.w {z : Nat} {G : AG} {A : CA} {M : MA} {L1 L2 : List Nat} {o : Nat} {g : Sg} (h : LI z G A M L1 L2 o g) : WF G := h.1
theorem LI.c {z : Nat} {G : AG} {A : CA} {M : MA} {L1 L2 : List Nat} {o : Nat} {g : Sg} (h : LI z G A M L1 L2 o g) : RC z G A g := h.2.1
theorem LI.ci {z : Nat} {G : AG} {A : CA} {M : MA} {L1 L2 : List Nat} {o : Nat} {g : Sg} (h : LI z G A M L1 L2 o g) : RCi G A L1 g := h.2.2.1
theorem LI.m {z : Nat} {G : AG} {A : CA} {M : MA} {L1 L2 : List Nat} {o : Nat} {g : Sg} (h : LI z G A M L1 L2 o g) : RM G M g := h.2.2.2.1
theorem LI.ml {z : Nat} {G : AG} {A : CA} {M : MA} {L1 L2 : List Nat} {o : Nat} {g : Sg} (h : LI z G A M L1 L2 o g) : RMi G M L2 g := h.2.2.2.2.1
theorem LI.ho {z : Nat} {G : AG} {A : CA} {M : MA} {L1 L2 : List Nat} {o : Nat} {g : Sg} (h : LI z G A M L1 L2 o g) : M.ho = 8192 := h.2.2.2.2.2.1
theorem LI.ko {z : Nat} {G : AG} {A : CA} {M : MA} {L1 L2 : List Nat} {o : Nat} {g : Sg} (h : LI z G A M L1 L2 o g) : hT g o = some (103, 1) := h.2.2.2.2.2.2.1
theorem LI.vf {z : Nat} {G : AG} {A : CA} {M : MA} {L1 L2 : List Nat} {o : Nat} {g : Sg} (h : LI z G A M L1 L2 o g) : ∀ i, isF i → A.vw ≠ M.f i := h.2.2.2.2.2.2.2.1
theorem LI.vr {z : Nat} {G : AG} {A : CA} {M : MA} {L1 L2 : List Nat} {o : Nat} {g : Sg} (h : LI z G A M L1 L2 o g) : ∀ s, s < 16 → A.vw ≠ M.rw s := h.2.2.2.2.2.2.2.2.1
theorem LI.b {z : Nat} {G : AG} {A : CA} {M : MA} {L1 L2 : List Nat} {o : Nat} {g : Sg} (h : LI z G A M L1 L2 o g) : ∀ e, e < G.ne → (∀ i, isF i → A.bf e ≠ M.f i) ∧ ∀ s, s < 16 → A.bf e ≠ M.rw s := h.2.2.2.2.2.2.2.2.2.1
theorem LI.hz {z : Nat} {G : AG} {A : CA} {M : MA} {L1 L2 : List Nat} {o : Nat} {g : Sg} (h : LI z G A M L1 L2 o g) : ∀ t, G.na ≤ t → A.hc t = 0 := h.2.2.2.2.2.2.2.2.2.2
theorem LI.mk {z : Nat} {G : AG} {A : CA} {M : MA} {L1 L2 : List Nat} {o : Nat} {g : Sg} (h0 : WF G) (h1 : RC z G A g) (h2 : RCi G A L1 g) (h3 : RM G M g) (h4 : RMi G M L2 g) (h5 : M.ho = 8192) (h6 : hT g o = some (103, 1)) (h7 : ∀ i, isF i → A.vw ≠ M.f i) (h8 : ∀ s, s < 16 → A.vw ≠ M.rw s) (h9 : ∀ e, e < G.ne → (∀ i, isF i → A.bf e ≠ M.f i) ∧ ∀ s, s < 16 → A.bf e ≠ M.rw s) (h10 : ∀ t, G.na ≤ t → A.hc t = 0) : LI z G A M L1 L2 o g := ⟨h0, h1, h2, h3, h4, h5, h6, h7, h8, h9, h10⟩
theorem LI.cs (h : LI z G A M L1 L2 o g) (hf : fC A.vw g g2) (hR : RC z G A g2) (hL : RCi G A L g2) : LI z G A M L L2 o g2 := LI.mk h.w hR hL (h.m.fc h.w hf h.vf h.vr) (h.ml.fc h.m.k hf h.vf) h.ho (by rw [hf.t _ (nn h.ko)]; exact h.ko) h.vf h.vr h.b h.hz
theorem LI.mo (h : LI z G A M L1 L2 o g) (hf : fM M g g2) (hR : RM G M g2) (hL : RMi G M L g2) : LI z G A M L1 L o g2 := LI.mk h.w (h.c.fm h.w hf h.b) (h.ci.fm h.c.k hf) hR hL h.ho (by rw [hf.t _ (nn h.ko)]; exact h.ko) h.vf h.vr h.b h.hz
theorem LI.w56 (h : LI z G A M L1 L2 o g) (v : Int32) : LI z G A M L1 L2 o (wI g 56 M.m v) := h.mo (fM.w56 M g M.m v) (h.m.w56 M.m v) (h.ml.w56 M.m v)
theorem LI.sL (h : LI z G A M L1 L2 o g) (v : Int64) : LI z G A M L1 L2 o (sL g o 0 v) := LI.mk h.w (RC.mk h.c.k (RCf.mk h.c.f.ags h.c.f.arr h.c.f.rt h.c.f.li h.c.f.vw h.c.f.na h.c.f.ag h.c.f.nm h.c.f.sl h.c.f.hl) h.c.l h.c.e h.c.s h.c.o h.c.d h.c.t) (RCi.mk h.ci.n h.ci.le h.ci.lt h.ci.nd h.ci.at) (RM.mk h.m.k (RMf.mk h.m.f.g h.m.f.f h.m.f.l h.m.f.t h.m.f.s h.m.f.rw) (RMc.mk h.m.c.ne h.m.c.na h.m.c.no h.m.c.rc h.m.c.nm h.m.c.ct h.m.c.ev h.m.c.rl h.m.c.sl h.m.c.nu h.m.c.pa h.m.c.ins h.m.c.cd h.m.c.lc h.m.c.rch h.m.c.de h.m.c.ord)) (RMi.mk h.ml.n h.ml.le h.ml.lt h.ml.nd h.ml.at) h.ho h.ko h.vf h.vr h.b h.hz
theorem aL_sL9 (g : Sg) (a i : Nat) (v : Int64) : aL (sL g a i v) a i = v := by simp [aL, sL]
theorem t_out (ho : hT g o = some (103, 1)) {v : Int64} {post : Int32 → Sg → Prop} (k : post 0 (sL g o 0 v)) : ∃ a17, some o = some a17 ∧ (∃ j19 : Nat, inA g a17 103 (0 : Int32) j19 ∧ ∀ g20 : Sg, g20 = sL g a17 j19 v → post (0 : Int32) g20) :=
  ⟨o, rfl, 0, ⟨1, ho, rfl, by decide, by decide⟩, by rintro _ rfl; exact k⟩
theorem t_tail (hR : RM G M g) (ho : hT g o = some (103, 1)) {x v4 : Int32} {v : Int64} {kc ks : Nat} {K : Nat → Nat → Sg → Option Nat → Option Nat → Option Nat → Int32 → Prop} {ac : Option Nat} (hx : fI g 56 M.m = x) (hv : x = 0 → aL g o 0 = v) (hkc : kc ≤ mc) (hks : ks ≤ ms) (k : K (kc + 0) (ks + 0) g ac (some M.m) (some o) (v4 + 5)) :
    isK g M.m [6] ∧ ∃ c51 c52 : Nat, kc + c51 ≤ mc ∧ ks + c52 ≤ ms ∧ w_M_thrown z mi c51 c52 (fun (x54 : Int32) (g53 : Sg) => (x54 = x → (¬ x = 0 → K (kc + c51) (ks + c52) g53 ac (some M.m) (some o) (v4 + (5 : Int32))) ∧ (x = 0 → ∃ a56, some o = some a56 ∧ (∃ j58 : Nat, inA g53 a56 103 (0 : Int32) j58 ∧ ∀ x59 : Int64, x59 = aL g53 a56 j58 → ((lg_cmp x59 v) = 0 → K (kc + c51) (ks + c52) g53 ac (some M.m) (some a56) (v4 + (5 : Int32))) ∧ (¬ (lg_cmp x59 v) = 0 → False)))) ∧ (¬ x54 = x → False)) g M.m := by
  refine ⟨⟨_, _, hR.k.m, by decide⟩, 0, 0, by omega, by omega, ?_⟩
  refine t_thrown hR hx ?_
  refine ⟨fun _ => ⟨fun _ => k, fun h0 => ⟨o, rfl, 0, ⟨1, ho, rfl, by decide, by decide⟩, ?_⟩⟩, fun h => h rfl⟩
  rintro _ rfl
  rw [hv h0]
  exact ⟨fun _ => k, fun h => h (lg_self v)⟩
theorem tA_uq9 {n : Nat} {y : Int32} {e e' : Nat} (h : tA G n y e) (h' : tA G n y e') : e = e' := by
  obtain ⟨j, h1, h2, h3⟩ := h
  obtain ⟨j', q1, q2, q3⟩ := h'
  have : j = j' := (nI_eq h2 q2).mp (h1.symm.trans q1)
  subst this
  rw [h3] at q3
  injection q3 with q3
  omega
theorem lnR_uq (hw : WF G) {y : Int32} {r r' : Option Int32} (h : lnR G y r) (h' : lnR G y r') : r = r' := by
  have hl : (nl G).length ≤ 8193 := by
    have h1 := nlA_len (G := G) (tx G G.ne) 0
    have h2 : (tx G G.ne).length ≤ 8193 := by rw [tx_len]; exact txL_le hw
    unfold nl
    omega
  have z1 : ∀ k p, (nl G)[k]? = some p → nI (k + 1) ≠ 0 ∧ nI (k + 1) ≠ -1 := fun k p hk => by
    have := (List.getElem?_eq_some_iff.mp hk).1
    exact ⟨fun e => absurd ((eI (b := 0) (by omega) (by omega)).mp e) (by omega), nI_m1 (by omega)⟩
  rcases h with ⟨a1, a2⟩ | ⟨a1, a2⟩ | ⟨k, p, a1, a2, a3⟩ | ⟨a1, a2, a3, a4⟩
  · rcases h' with ⟨b1, b2⟩ | ⟨b1, b2⟩ | ⟨k', p', b1, b2, b3⟩ | ⟨b1, b2, b3, b4⟩
    · rw [a2, b2]
    · rw [a1] at b1; exact absurd b1 (by decide)
    · exact absurd (b1.symm.trans a1) (z1 k' p' b2).1
    · exact absurd a1 b1
  · rcases h' with ⟨b1, b2⟩ | ⟨b1, b2⟩ | ⟨k', p', b1, b2, b3⟩ | ⟨b1, b2, b3, b4⟩
    · rw [a1] at b1; exact absurd b1 (by decide)
    · rw [a2, b2]
    · exact absurd (b1.symm.trans a1) (z1 k' p' b2).2
    · exact absurd a1 b2
  · rcases h' with ⟨b1, b2⟩ | ⟨b1, b2⟩ | ⟨k', p', b1, b2, b3⟩ | ⟨b1, b2, b3, b4⟩
    · exact absurd (a1.symm.trans b1) (z1 k p a2).1
    · exact absurd (a1.symm.trans b1) (z1 k p a2).2
    · have l1 := (List.getElem?_eq_some_iff.mp a2).1
      have l2 := (List.getElem?_eq_some_iff.mp b2).1
      have : k = k' := by
        have := (eI (by omega) (by omega)).mp (a1.symm.trans b1)
        omega
      subst this
      rw [a2] at b2
      injection b2 with b2
      rw [a3, b3, b2]
    · exact absurd a2 (b3 k p a1)
  · rcases h' with ⟨b1, b2⟩ | ⟨b1, b2⟩ | ⟨k', p', b1, b2, b3⟩ | ⟨b1, b2, b3, b4⟩
    · exact absurd b1 a1
    · exact absurd b1 a2
    · exact absurd b2 (a3 k' p' b1)
    · rw [a4, b4]
end CRO
