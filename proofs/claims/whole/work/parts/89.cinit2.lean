section CIO
variable {z mi mc ms : Nat} {g g1 g2 : Sg}
def cell (g : Sg) (q : Nat) (y : Nat × Nat) (r : Nat → Option Nat) (i : Nat → Int32) : Prop := hT g q = some y ∧ (∀ f, fR g f q = r f) ∧ (∀ f, fI g f q = i f)
def stay (c : Nat) (g g1 : Sg) : Prop := ∀ p y r i, p ≠ c → cell g p y r i → cell g1 p y r i
theorem stay.trans {c : Nat} {g3 : Sg} (h : stay c g g1) (h' : stay c g1 g3) : stay c g g3 := fun p y r i hp hc => h' p y r i hp (h p y r i hp hc)
theorem cell.ne {p q : Nat} {y y' : Nat × Nat} {r r' : Nat → Option Nat} {i i' : Nat → Int32} (h : cell g p y r i) (h' : cell g q y' r' i') (hy : y ≠ y') : p ≠ q := fun e => by
  have h1 := h.1
  rw [e, h'.1] at h1
  exact hy (by injection h1 with h1; exact h1.symm)
theorem cell.fr {p a : Nat} {y : Nat × Nat} {r : Nat → Option Nat} {i : Nat → Int32} (h : cell g p y r i) (ha : hT g a = none) : p ≠ a := fun e => by
  have h1 := h.1
  rw [e, ha] at h1
  cases h1
theorem cl_new {a : Nat} (k n : Nat) (ha : hT g a = none) : cell (nO g a k n) a (k, n) (fun _ => none) (fun _ => 0) ∧ ∀ p y r i, cell g p y r i → cell (nO g a k n) p y r i := by
  refine ⟨⟨hT9 _ _ _ _, fun f => fR_nO _, fun f => fI_nO _⟩, fun p y r i h => ?_⟩
  have hn := h.fr ha
  exact ⟨by rw [hT9n _ hn]; exact h.1, fun f => by rw [fR_nO_ne _ hn]; exact h.2.1 f, fun f => by rw [fI_nO_ne _ hn]; exact h.2.2 f⟩
theorem cl_wR {q : Nat} {y : Nat × Nat} {r : Nat → Option Nat} {i : Nat → Int32} (h : cell g q y r i) (f : Nat) (v : Option Nat) : cell (wR g f q v) q y (ug r f v) i ∧ stay q g (wR g f q v) := by
  refine ⟨⟨h.1, fun f' => ?_, h.2.2⟩, fun p y r i hp hc => ⟨hc.1, fun f' => ?_, hc.2.2⟩⟩
  · by_cases e : f' = f
    · subst e; rw [fR_wR, ug_at]; simp
    · rw [fR_wR_ne _ _ _ e, ug_ne e]; exact h.2.1 f'
  · by_cases e : f' = f
    · subst e; rw [fR_wR]; simp only [hp, if_false]; exact hc.2.1 f'
    · rw [fR_wR_ne _ _ _ e]; exact hc.2.1 f'
theorem cl_wI {q : Nat} {y : Nat × Nat} {r : Nat → Option Nat} {i : Nat → Int32} (h : cell g q y r i) (f : Nat) (v : Int32) : cell (wI g f q v) q y r (ug i f v) ∧ stay q g (wI g f q v) := by
  refine ⟨⟨h.1, h.2.1, fun f' => ?_⟩, fun p y r i hp hc => ⟨hc.1, hc.2.1, fun f' => ?_⟩⟩
  · by_cases e : f' = f
    · subst e; rw [fI_wI, ug_at]; simp
    · rw [fI_wI_ne _ _ _ e, ug_ne e]; exact h.2.2 f'
  · by_cases e : f' = f
    · subst e; rw [fI_wI]; simp only [hp, if_false]; exact hc.2.2 f'
    · rw [fI_wI_ne _ _ _ e]; exact hc.2.2 f'
theorem cl_at {a c : Nat} {y : Nat × Nat} {r : Nat → Option Nat} {i : Nat → Int32} (k n f : Nat) (ha : hT g a = none) (hc : cell g c y r i) : cell (wR (nO g a k n) f c (some a)) c y (ug r f (some a)) i ∧ cell (wR (nO g a k n) f c (some a)) a (k, n) (fun _ => none) (fun _ => 0) ∧ stay c g (wR (nO g a k n) f c (some a)) := by
  obtain ⟨n1, n2⟩ := cl_new k n ha
  obtain ⟨w1, w2⟩ := cl_wR (n2 c y r i hc) f (some a)
  exact ⟨w1, w2 a _ _ _ (fun e => hc.fr ha e.symm) n1, fun p y r i hp hq => w2 p y r i hp (n2 p y r i hq)⟩
theorem t_ALinit {a : Nat} {r : Nat → Option Nat} {i : Nat → Int32} (h : cell g a (0, 3) r i) {post : Sg → Prop} (k : ∀ g2, cell g2 a (0, 3) (ug r 2 (some z)) (ug i 1 0) → stay a g g2 → post g2) : w_AL_init z mi mc ms post g a := by
  unfold w_AL_init
  refine ⟨0, 0, by omega, by omega, ?_⟩
  unfold w_AB_init
  refine ⟨0, 0, by omega, by omega, ?_⟩
  unfold w_AC_init
  refine ⟨hasI_of h.1 (by decide), ?_⟩
  rintro _ rfl
  obtain ⟨w1, w2⟩ := cl_wI h 1 0
  refine ⟨hasR_of w1.1 (by decide), ?_⟩
  rintro _ rfl
  obtain ⟨w3, w4⟩ := cl_wR w1 2 (some z)
  exact k _ w3 (w2.trans w4)
theorem t_Cinit {c : Nat} {r : Nat → Option Nat} {i : Nat → Int32} (hc : cell g c (4, 8) r i) (hmc : 8 ≤ mc) (hms : 90 ≤ ms) {post : Sg → Prop}
    (k : ∀ A g2, RC z G0 A g2 → RCi G0 A [] g2 → A.c = c → A.ac = 0 → (∀ t, A.hc t = 0) → post g2) : w_C_init z mi mc ms post g c := by
  unfold w_C_init
  refine ⟨16, rfl, by omega, by omega, by omega, fun a1 h1 => ?_⟩
  rintro _ rfl
  obtain ⟨-, k1⟩ := cl_new 104 16 h1
  refine ⟨hasR_of (k1 _ _ _ _ hc).1 (by decide), ?_⟩
  intro g1 e1
  obtain ⟨c1, n1, s1⟩ := cl_at 104 16 21 h1 hc
  rw [← e1] at c1 n1 s1
  clear e1
  refine ⟨by omega, by omega, fun a2 h2 => ?_⟩
  intro g2 e2
  obtain ⟨n2, k2⟩ := cl_new 0 3 h2
  rw [← e2] at n2 k2
  clear e2
  have c2 := k2 _ _ _ _ c1
  have p2 := k2 _ _ _ _ n1
  refine ⟨0, 0, by omega, by omega, ?_⟩
  refine t_ALinit n2 (fun g3 n3 s3 => ?_)
  have c3 := s3 _ _ _ _ (c2.ne n2 (by decide)) c2
  have p3 := s3 _ _ _ _ (p2.ne n2 (by decide)) p2
  refine ⟨hasR_of c3.1 (by decide), ?_⟩
  intro g4 e4
  obtain ⟨c4, s4⟩ := cl_wR c3 22 (some a2)
  rw [← e4] at c4 s4
  clear e4
  have n4 := s4 _ _ _ _ (n3.ne c3 (by decide)) n3
  have p4 := s4 _ _ _ _ (p3.ne c3 (by decide)) p3
  refine ⟨16, rfl, by omega, by omega, by omega, fun a3 h3 => ?_⟩
  rintro _ rfl
  obtain ⟨-, k5⟩ := cl_new 105 16 h3
  refine ⟨hasR_of (k5 _ _ _ _ c4).1 (by decide), ?_⟩
  intro g5 e5
  obtain ⟨c5, l5, s5⟩ := cl_at 105 16 24 h3 c4
  rw [← e5] at c5 l5 s5
  clear e5
  have n5 := s5 _ _ _ _ (n4.ne c4 (by decide)) n4
  have p5 := s5 _ _ _ _ (p4.ne c4 (by decide)) p4
  refine ⟨16, rfl, by omega, by omega, by omega, fun a4 h4 => ?_⟩
  rintro _ rfl
  obtain ⟨-, k6⟩ := cl_new 100 16 h4
  refine ⟨hasR_of (k6 _ _ _ _ c5).1 (by decide), ?_⟩
  intro g6 e6
  obtain ⟨c6, v6, s6⟩ := cl_at 100 16 25 h4 c5
  rw [← e6] at c6 v6 s6
  clear e6
  have n6 := s6 _ _ _ _ (n5.ne c5 (by decide)) n5
  have p6 := s6 _ _ _ _ (p5.ne c5 (by decide)) p5
  have l6 := s6 _ _ _ _ (l5.ne c5 (by decide)) l5
  refine ⟨by omega, by omega, fun a5 h5 => ?_⟩
  intro g7 e7
  obtain ⟨r7, k7⟩ := cl_new 3 13 h5
  rw [← e7] at r7 k7
  clear e7
  have c7 := k7 _ _ _ _ c6
  have n7 := k7 _ _ _ _ n6
  have p7 := k7 _ _ _ _ p6
  have l7 := k7 _ _ _ _ l6
  have v7 := k7 _ _ _ _ v6
  refine ⟨by omega, by omega, fun a6 h6 => ?_⟩
  intro g8 e8
  obtain ⟨t8, k8⟩ := cl_new 1 3 h6
  rw [← e8] at t8 k8
  clear e8
  have c8 := k8 _ _ _ _ c7
  have n8 := k8 _ _ _ _ n7
  have p8 := k8 _ _ _ _ p7
  have l8 := k8 _ _ _ _ l7
  have v8 := k8 _ _ _ _ v7
  have r8 := k8 _ _ _ _ r7
  refine ⟨1, 3, by omega, by omega, ?_⟩
  unfold w_A_init
  refine ⟨hasI_of t8.1 (by decide), ?_⟩
  intro g9 e9
  obtain ⟨t9, s9⟩ := cl_wI t8 4 (-1)
  rw [← e9] at t9 s9
  clear e9
  refine ⟨hasI_of t9.1 (by decide), ?_⟩
  intro g10 e10
  obtain ⟨t10, s10⟩ := cl_wI t9 5 0
  rw [← e10] at t10 s10
  clear e10
  have s10' := s9.trans s10
  have c10 := s10' _ _ _ _ (c8.ne t8 (by decide)) c8
  have n10 := s10' _ _ _ _ (n8.ne t8 (by decide)) n8
  have p10 := s10' _ _ _ _ (p8.ne t8 (by decide)) p8
  have l10 := s10' _ _ _ _ (l8.ne t8 (by decide)) l8
  have v10 := s10' _ _ _ _ (v8.ne t8 (by decide)) v8
  have r10 := s10' _ _ _ _ (r8.ne t8 (by decide)) r8
  refine ⟨by omega, by omega, fun a7 h7 => ?_⟩
  intro g11 e11
  obtain ⟨m11, k11⟩ := cl_new 0 3 h7
  rw [← e11] at m11 k11
  clear e11
  have nm := n10.fr h7
  have c11 := k11 _ _ _ _ c10
  have n11 := k11 _ _ _ _ n10
  have p11 := k11 _ _ _ _ p10
  have l11 := k11 _ _ _ _ l10
  have v11 := k11 _ _ _ _ v10
  have r11 := k11 _ _ _ _ r10
  have t11 := k11 _ _ _ _ t10
  refine ⟨0, 0, by omega, by omega, ?_⟩
  refine t_ALinit m11 (fun g12 m12 s12 => ?_)
  have c12 := s12 _ _ _ _ (c11.ne m11 (by decide)) c11
  have n12 := s12 _ _ _ _ nm n11
  have p12 := s12 _ _ _ _ (p11.ne m11 (by decide)) p11
  have l12 := s12 _ _ _ _ (l11.ne m11 (by decide)) l11
  have v12 := s12 _ _ _ _ (v11.ne m11 (by decide)) v11
  have r12 := s12 _ _ _ _ (r11.ne m11 (by decide)) r11
  have t12 := s12 _ _ _ _ (t11.ne m11 (by decide)) t11
  refine ⟨hasR_of t12.1 (by decide), ?_⟩
  intro g13 e13
  obtain ⟨t13, s13⟩ := cl_wR t12 6 (some a7)
  rw [← e13] at t13 s13
  clear e13
  have c13 := s13 _ _ _ _ (c12.ne t12 (by decide)) c12
  have n13 := s13 _ _ _ _ (n12.ne t12 (by decide)) n12
  have p13 := s13 _ _ _ _ (p12.ne t12 (by decide)) p12
  have l13 := s13 _ _ _ _ (l12.ne t12 (by decide)) l12
  have v13 := s13 _ _ _ _ (v12.ne t12 (by decide)) v12
  have r13 := s13 _ _ _ _ (r12.ne t12 (by decide)) r12
  have m13 := s13 _ _ _ _ (m12.ne t12 (by decide)) m12
  refine ⟨16, rfl, by omega, by omega, by omega, fun a8 h8 => ?_⟩
  intro g14 e14
  obtain ⟨-, k14⟩ := cl_new 100 16 h8
  rw [← e14] at k14
  clear e14
  have c14 := k14 _ _ _ _ c13
  have n14 := k14 _ _ _ _ n13
  have p14 := k14 _ _ _ _ p13
  have l14 := k14 _ _ _ _ l13
  have v14 := k14 _ _ _ _ v13
  have r14 := k14 _ _ _ _ r13
  have t14 := k14 _ _ _ _ t13
  have m14 := k14 _ _ _ _ m13
  refine ⟨0, 0, by omega, by omega, ?_⟩
  unfold w_N_init
  refine ⟨0, 0, by omega, by omega, ?_⟩
  unfold w_E_init
  refine ⟨hasR_of r14.1 (by decide), ?_⟩
  intro g15 e15
  obtain ⟨r15, s15⟩ := cl_wR r14 7 (some a6)
  rw [← e15] at r15 s15
  clear e15
  have t15 := s15 _ _ _ _ (t14.ne r14 (by decide)) t14
  have m15 := s15 _ _ _ _ (m14.ne r14 (by decide)) m14
  refine ⟨_, rfl, hasR_of t15.1 (by decide), ?_⟩
  rintro _ rfl
  refine ⟨a7, (t15.2.1 6).trans (ug_at _ _ _), ⟨_, _, m15.1, by decide⟩, 0, 0, by omega, by omega, ?_⟩
  unfold w_AL_size
  refine ⟨hasI_of m15.1 (by decide), ?_⟩
  rintro _ rfl
  refine ⟨hasI_of r15.1 (by decide), ?_⟩
  intro g16 e16
  obtain ⟨r16, s16⟩ := cl_wI r15 8 (fI g15 3 a7)
  rw [← e16] at r16 s16
  clear e16
  refine ⟨hasR_of r16.1 (by decide), ?_⟩
  intro g17 e17
  obtain ⟨r17, s17⟩ := cl_wR r16 9 (some a8)
  rw [← e17] at r17 s17
  clear e17
  refine ⟨hasI_of r17.1 (by decide), ?_⟩
  intro g18 e18
  obtain ⟨r18, s18⟩ := cl_wI r17 13 0
  rw [← e18] at r18 s18
  clear e18
  refine ⟨hasI_of r18.1 (by decide), ?_⟩
  intro g19 e19
  obtain ⟨r19, s19⟩ := cl_wI r18 20 1000000
  rw [← e19] at r19 s19
  clear e19
  have st := (((s15.trans s16).trans s17).trans s18).trans s19
  have c19 := st _ _ _ _ (c14.ne r14 (by decide)) c14
  have n19 := st _ _ _ _ (n14.ne r14 (by decide)) n14
  have p19 := st _ _ _ _ (p14.ne r14 (by decide)) p14
  have l19 := st _ _ _ _ (l14.ne r14 (by decide)) l14
  have v19 := st _ _ _ _ (v14.ne r14 (by decide)) v14
  refine ⟨hasR_of c19.1 (by decide), ?_⟩
  intro g20 e20
  obtain ⟨c20, s20⟩ := cl_wR c19 23 (some a5)
  rw [← e20] at c20 s20
  clear e20
  refine ⟨hasI_of c20.1 (by decide), ?_⟩
  intro g21 e21
  obtain ⟨c21, s21⟩ := cl_wI c20 26 0
  rw [← e21] at c21 s21
  clear e21
  refine ⟨hasI_of c21.1 (by decide), ?_⟩
  intro g22 e22
  obtain ⟨c22, s22⟩ := cl_wI c21 27 0
  rw [← e22] at c22 s22
  clear e22
  refine ⟨hasI_of c22.1 (by decide), ?_⟩
  intro g23 e23
  obtain ⟨c23, s23⟩ := cl_wI c22 28 0
  rw [← e23] at c23 s23
  clear e23
  have su := ((s20.trans s21).trans s22).trans s23
  have n23 := su _ _ _ _ (n19.ne c19 (by decide)) n19
  have p23 := su _ _ _ _ (p19.ne c19 (by decide)) p19
  have l23 := su _ _ _ _ (l19.ne c19 (by decide)) l19
  have v23 := su _ _ _ _ (v19.ne c19 (by decide)) v19
  have r23 := su _ _ _ _ (r19.ne c19 (by decide)) r19
  obtain ⟨q1, q2⟩ := RC_0 (z := z) c23.1 p23.1 n23.1 r23.1 l23.1 v23.1 (c23.2.1 21) (c23.2.1 22) (c23.2.1 23) (c23.2.1 24) (c23.2.1 25) (c23.2.2 26) (c23.2.2 27) (c23.2.2 28) (n23.2.2 3) (n23.2.1 2) (r23.2.1 14) (r23.2.1 15) (r23.2.1 18)
  exact k _ _ q1 q2 rfl rfl (fun _ => rfl)
end CIO
