section CDE
variable {z mi mc ms : Nat} {G G2 : AG} {A : CA} {g g1 g2 : Sg} {L : List Nat} {V W : Nat → Nat}
theorem t_delete (hw : WF G) (hR : RC z G A g) (hL : RCi G A L g) (hz : ∀ t, G.na ≤ t → A.hc t = 0) {x y w : Int32} (hmc : 304 ≤ mc) (hms : 28 ≤ ms) (hms2 : ∀ a i n s G0, arg1 x y w a i n → go1 G L x → i + n ≤ (seL G (vL G L)).length → rm1 G x n → au G a G0 s → 28 + wcost 6 n (A.hc s) (G0.ct s) A.ac G.ne ≤ ms) {post : Int32 → Sg → Prop} {px : Nat → Sg → Prop}
    (kx : ∀ r g2, oD G L x y w r G → r ≠ 5 → RC z G A g2 → RCi G A (if r = 3 then L else []) g2 → fC A.vw g g2 → px r g2)
    (kr : ∀ G2 A2 g2, oD G L x y w 5 G2 → WF G2 → RC z G2 A2 g2 → RCi G2 A2 [] g2 → (∃ a i n s G0, arg1 x y w a i n ∧ au G a G0 s ∧ rm1 G x n ∧ G2.ne = G.ne + n ∧ doneP 6 n s G G0 A A2 g g2) → post (nI (txL G2 G2.ne)) g2) : w_C_delete z mi mc ms post px g A.c x y w := by
  have hc := hR.k.c
  have hb : ∀ t, t < 16 → vL G L t ≤ 8192 := fun t _ => vL_b hw hL.lt t
  unfold w_C_delete
  refine ⟨0, 0, by omega, by omega, ?_⟩
  refine t_canBeEdit (fun a i n h1 => ⟨fun _ => ?_, fun h => absurd h (by decide)⟩) (fun h1 => ⟨fun h => absurd rfl h, fun _ => ⟨by omega, by omega, kx 3 g (Or.inl ⟨rfl, rfl, fun a i n h => absurd h (h1 a i n)⟩) (by decide) hR hL (fC.refl g)⟩⟩)
  obtain ⟨rfl, ha, rfl, hi, rfl, hn1, hn⟩ := id h1
  have h2 : True := trivial
  · refine ⟨⟨_, _, hc, by decide⟩, 0, 0, by omega, by omega, ?_⟩
    refine t_takeList hw hR hL (fun h3 g2 hR2 hL2 hV2 hf2 => ⟨fun _ => ?_, fun h => absurd h (by decide)⟩) (fun h3 g2 hR2 hL2 hf2 => ⟨fun h => absurd rfl h, fun _ => ⟨by omega, by omega, kx 1 g2 (Or.inr ⟨a, i, n, h1, h2, Or.inl ⟨rfl, rfl, h3⟩⟩) (by decide) hR2 hL2 hf2⟩⟩)
    refine ⟨⟨_, _, hR2.k.c, by decide⟩, 0, 0, by omega, by omega, ?_⟩
    refine t_countSeen hw hR2 hV2 hb ?_
    have hse := seL_le (V := vL G L) hw
    have hcmp : nI i ≤ nI (seL G (vL G L)).length - nI n ↔ i + n ≤ (seL G (vL G L)).length := by
      rw [Int32.le_iff_toInt_le, nI_toInt hi, pk_sub_toInt (by omega) (by omega)]
      omega
    rw [hcmp]
    refine ⟨fun h4 => ?_, fun h4 => ⟨by omega, by omega, kx 4 g2 (Or.inr ⟨a, i, n, h1, h2, Or.inr ⟨h3, Or.inl ⟨rfl, rfl, h4⟩⟩⟩) (by decide) hR2 hL2 hf2⟩⟩
    refine ⟨⟨_, _, hR2.k.c, by decide⟩, 0, 0, by omega, by omega, ?_⟩
    refine t_hasRoom hw hR2 hn (fun h5 => ⟨fun _ => ?_, fun h => absurd h (by decide)⟩) (fun h5 => ⟨fun h => absurd rfl h, fun _ => ⟨by omega, by omega, kx 2 g2 (Or.inr ⟨a, i, n, h1, h2, Or.inr ⟨h3, Or.inr ⟨h4, Or.inl ⟨rfl, rfl, h5⟩⟩⟩⟩) (by decide) hR2 hL2 hf2⟩⟩)
    refine ⟨⟨_, _, hR2.k.c, by decide⟩, 2, 6, by omega, by omega, ?_⟩
    have hrr : G.na < 16 ∨ ∃ t, t < G.na ∧ G.nm t = a := by
      rcases h5.2 with h | ⟨t, ht, hx⟩
      · exact Or.inl h
      · have := hw.nm_le t ht
        exact Or.inr ⟨t, ht, (eI (by omega) (by omega)).mp hx⟩
    refine t_author hw hR2 hV2 hrr ha (by omega) (by omega) (fun s G0 A0 g3 hau hw0 hR3 hV3 hf3 hl3 ec ev el ea eh eh' eb => ?_)
    obtain ⟨-, ok⟩ := ed_ok hw hL.lt h1 h3 h5 hau
    have hms3 := hms2 a i n s G0 h1 h3 h4 h5 hau
    have ehs : A0.hc s = A.hc s := by
      by_cases hs : s < G.na
      · exact eh s hs
      · have := hz s (by omega)
        have := eh' s (by omega)
        omega
    have ehz : ∀ t, A0.hc t = A.hc t := fun t => by
      by_cases hs : t < G.na
      · exact eh t hs
      · have := hz t (by omega)
        have := eh' t (by omega)
        omega
    rw [← ec]
    refine ⟨⟨_, _, hR3.k.c, by decide⟩, 1 + 3 * n, 16 + wcost 6 n (A0.hc s) (G0.ct s) A0.ac G0.ne, by omega, by rw [ehs, ea, au_ne hau]; omega, ?_⟩
    refine t_cutOut hw0 hR3 hV3 hb ok hn1 (by rw [au_se hau]; exact h4) hn (by rw [au_ne hau]; exact h5.1) (by omega) (by omega) (fun G2 A2 g4 hrun hw2 hR4 hPb => ?_)
    obtain ⟨bb, hbb, hP⟩ := hPb
    rw [← hP.c]
    refine ⟨hasI_of hR4.k.c (by decide), ?_⟩
    rintro _ rfl
    rw [hR4.t.1]
    have hne2 : ∀ (n : Nat) {G : AG} {W : Nat → Nat} {i : Nat} {G2 : AG}, runD n G s W i G2 → G2.ne = G.ne + n := by
      intro n
      induction n with
      | zero => intro G W i G2 h; rw [show G2 = G from h]; rfl
      | succ n ih =>
        intro G W i G2 h
        obtain ⟨G1, q1, q2⟩ := h
        obtain ⟨u, x, v, -, -, -, rfl⟩ := q1
        rw [ih q2]
        show G.ne + 1 + n = _
        omega
    refine kr G2 A2 g4 (Or.inr ⟨a, i, n, h1, h2, Or.inr ⟨h3, Or.inr ⟨h4, Or.inr ⟨rfl, h5, s, G0, hau, hrun⟩⟩⟩⟩) hw2 hR4 (RCi.nil hR4 ?_) ⟨a, i, n, s, G0, h1, hau, h5, by rw [hne2 n hrun, au_ne hau], doneP.mk ?_ (hP.c.trans ec) (hP.vw.trans ev) (fun t ht => (hP.hc t ht).trans (ehz t)) ?_ (fun e => ?_)⟩
    · rw [hP.c, hP.l, ec, hl3]; exact hL2.n
    · have := hP.fc
      rw [ev] at this
      exact (hf2.trans hf3).trans this
    · have := hP.po
      rw [ehs, ea, au_ne hau] at this
      exact this
    · have ene := au_ne hau
      refine ⟨fun he => by rw [(hP.bf e).1 (by omega), eb], fun q1 q2 => ?_⟩
      · rw [(hP.bf e).2 (by omega) (by omega)]
        cases h0 : hT g bb with
        | none => rfl
        | some yy => exact absurd (((hf2.trans hf3).t _ (nn h0)).trans h0) (by rw [hbb]; exact fun h => nomatch h)
theorem t_length (hR : RC z G A g) {post : Int32 → Sg → Prop} (k : post (nI (txL G G.ne)) g) : w_C_length z mi mc ms post g A.c := by
  have hc := hR.k.c
  unfold w_C_length
  (refine ⟨?_, ?_⟩; (focus (first | exact hasI_of (by assumption) (by decide) | exact hasR_of (by assumption) (by decide))); rintro _ rfl; try rw [hR.t.1])
  exact k
def fE (G : AG) (x y : Int32) (e : Nat) : Prop := ∃ s n, s < G.na ∧ n < G.ct s ∧ nI (G.nm s) = x ∧ y = nI n ∧ e = G.ev s n
theorem t_findE (hw : WF G) (hR : RC z G A g) {x y : Int32} {post : Option Nat → Sg → Prop} (k1 : ∀ e, fE G x y e → e < G.ne → post (some (A.ea e)) g) (k0 : (∀ e, ¬ fE G x y e) → post none g) : w_C_findEvent z mi mc ms post g A.c x y :=
  t_findEvent hw hR (fun s n hs hn hx hy => k1 _ ⟨s, n, hs, hn, hx, hy, rfl⟩ (hw.ev_lt s n hs hn)) (fun h => k0 (fun e ⟨s, n, hs, hn, hx, hy, _⟩ => h s n hs hn hx hy))
theorem fE_uq (hw : WF G) {x y : Int32} {e e' : Nat} (h : fE G x y e) (h' : fE G x y e') : e = e' := by
  obtain ⟨s, n, hs, hn, hx, hy, rfl⟩ := h
  obtain ⟨s', n', hs', hn', hx', hy', rfl⟩ := h'
  have q1 := hw.nm_le s hs
  have q2 := hw.nm_le s' hs'
  have e1 : s = s' := hw.nm_inj _ _ hs hs' ((eI (by omega) (by omega)).mp (hx.trans hx'.symm))
  subst e1
  have q3 := ct2M hw hs
  have e2 : n = n' := (eI (by omega) (by omega)).mp (hy.symm.trans hy')
  rw [e2]
theorem t_parent (hw : WF G) (hR : RC z G A g) (hL : RCi G A L g) {x y : Int32} (hmc : 1 ≤ mc) (hms : 6 ≤ ms) {post : Int32 → Sg → Prop} {px : Nat → Sg → Prop} (k0 : (∀ e, ¬ fE G x y e) → px 0 g) (k1 : ∀ e, fE G x y e → e ∈ L → px 1 g) (k2 : ∀ e, fE G x y e → e ∉ L → L.length = 16 → px 2 g)
    (kr : ∀ e g2, fE G x y e → e < G.ne → e ∉ L → L.length < 16 → RC z G A g2 → RCi G A (L ++ [e]) g2 → fC A.vw g g2 → post (nI (L.length + 1)) g2) : w_C_parent z mi mc ms post px g A.c x y := by
  have hc := hR.k.c
  have hle := hL.le
  unfold w_C_parent
  refine ⟨⟨_, _, by assumption, by decide⟩, 0, 0, by omega, by omega, ?_⟩
  refine t_findE hw hR (fun e hE he => ⟨(fun h => nomatch h), ?_⟩) (fun h => ⟨fun _ => ⟨by omega, by omega, k0 h⟩, (fun _ h => nomatch h)⟩)
  rintro _ ⟨⟩
  refine ⟨⟨_, _, by assumption, by decide⟩, 0, 0, by omega, by omega, ?_⟩
  refine t_isListed hR hL he (fun hm => ⟨fun h => absurd h (by decide), fun _ => ⟨by omega, by omega, k1 e hE hm⟩⟩) (fun hm => ⟨fun _ => ?_, fun h => absurd rfl h⟩)
  (refine ⟨?_, ?_⟩; (focus (first | exact hasI_of (by assumption) (by decide) | exact hasR_of (by assumption) (by decide))); rintro _ rfl; try rw [hL.n])
  have e16 : nI L.length < (16 : Int32) ↔ L.length < 16 := tI (b := 16) (by omega) (by omega)
  rw [e16]
  refine ⟨fun hlt => ?_, fun hlt => ⟨by omega, by omega, k2 e hE hm (by omega)⟩⟩
  refine ⟨⟨_, _, by assumption, by decide⟩, 0, 0, by omega, by omega, ?_⟩
  refine t_enlist hR hL he hm hlt (fun g2 hR2 hL2 hf => ?_)
  refine ⟨hasI_of hR2.k.c (by decide), ?_⟩
  rintro _ rfl
  rw [hL2.n, List.length_append]
  exact kr e g2 hE he hm hlt hR2 hL2 hf
theorem t_seen (hw : WF G) (hR : RC z G A g) (hL : RCi G A L g) (hmc : 1 ≤ mc) (hms : 6 ≤ ms) {post : Int32 → Sg → Prop} {px : Nat → Sg → Prop} (k1 : tg G L → px 1 g) (kr : ¬ tg G L → ∀ g2, RC z G A g2 → RCi G A L g2 → fC A.vw g g2 → post (nI (seL G (vL G L)).length) g2) : w_C_seen z mi mc ms post px g A.c := by
  have hc := hR.k.c
  unfold w_C_seen
  refine ⟨⟨_, _, by assumption, by decide⟩, 0, 0, by omega, by omega, ?_⟩
  refine t_tangled hw hR hL (fun ht => ⟨fun h => absurd h (by decide), fun _ => ⟨by omega, by omega, k1 ht⟩⟩) (fun ht => ⟨fun _ => ?_, fun h => absurd rfl h⟩)
  refine ⟨⟨_, _, by assumption, by decide⟩, 0, 0, by omega, by omega, ?_⟩
  refine t_look hw hR hL (fun h hh => ?_)
  have hR2 := hR.vw h
  refine ⟨⟨_, _, hR2.k.c, by decide⟩, 0, 0, by omega, by omega, ?_⟩
  refine t_countSeen (V := vL G L) hw hR2 (fun s hs => by rw [aI_cI]; exact hh s hs) (fun t _ => vL_b hw hL.lt t) ?_
  exact kr (tg_no.mpr ht) _ hR2 (hL.vw h) (fC.vw g _ h)
end CDE
