/-! whole arrays: clone, arraycopy; arrays of arrays -/
theorem nz {x : Int32} (h : x = 0 ∨ x = 1) : narrow .boolean (.int x) = .int x := by rcases h with rfl | rfl <;> rfl
theorem enc_cI_ne {cA : Nat → ClassId} {g : Sg} {a b : Nat} {h : Nat → Int32} (hb : b ≠ a) : enc cA (cI g a h) b = enc cA g b := by
  have h1 : eV (cI g a h) b = eV g b := rfl
  have h2 : ∀ k, eA k (cI g a h) b = eA k g b := fun k => by simp [eA, cI, aI, aL, aR, hb]
  unfold enc
  rw [show hT (cI g a h) b = hT g b from rfl, h1]
  cases hT g b with
  | none => rfl
  | some q => simp only [h2]
theorem enc_cR_ne {cA : Nat → ClassId} {g : Sg} {a b : Nat} {h : Nat → Option Nat} (hb : b ≠ a) : enc cA (cR g a h) b = enc cA g b := by
  have h1 : eV (cR g a h) b = eV g b := rfl
  have h2 : ∀ k, eA k (cR g a h) b = eA k g b := fun k => by simp [eA, cR, aI, aL, aR, hb]
  unfold enc
  rw [show hT (cR g a h) b = hT g b from rfl, h1]
  cases hT g b with
  | none => rfl
  | some q => simp only [h2]
theorem enc_cI {cA : Nat → ClassId} {g : Sg} {a k n : Nat} {h : Nat → Int32} (ha : hT g a = some (k, n)) (h1 : 100 ≤ k) (h2 : k < 103) : enc cA (cI g a h) a = .inl (cA k, n, .inl h) := by
  rw [enc_I (g := cI g a h) ha h1 h2]
  have : aI (cI g a h) a = h := funext fun i => by simp [aI, cI]
  rw [this]
theorem enc_cR {cA : Nat → ClassId} {g : Sg} {a k n : Nat} {h : Nat → Option Nat} (ha : hT g a = some (k, n)) (h1 : 103 < k) : enc cA (cR g a h) a = .inl (cA k, n, .inr (.inr (.inr (.inr h)))) := by
  rw [enc_R (g := cR g a h) ha h1]
  have : aR (cR g a h) a = h := funext fun i => by simp [aR, cR]
  rw [this]
section HX
variable {p : Program} {l : Launch} {e : Env} {R : Room} {s : State} {m : MethodId} {args : Array Value} {below : List Frame} {meth : Method} {c : Code} {H : Heap} {locs : List Loc} {cells slots : Nat} {Q : State → Prop}
variable {cc : ByteArray} {nL pc : Nat} {ls : Array Slot} {rest : List Value} {own : String} {D : va_G} {cA : Nat → ClassId} {sz z mi : Nat} {g : Sg} {a b j n index : Nat} {i : Int32}
theorem r_clone (S : CallFix p m c cc nL s args TBL own) (hsz : ls.size = nL) (hZ : Ws D cA sz z mi s) (hca : va_Nw (.castable "[I" "java/lang/Cloneable") s) (hG : WP D cA sz g H) (hS : va_S (oA sz) s.heap H locs) (hl : Cond.methodLink own index ⟨"[I", "clone", "()Ljava/lang/Object;"⟩ ∈ TBL) (h1 : Cond.sameMethod "[I" "java/lang/Object" "clone" "()Ljava/lang/Object;" ∈ TBL) (h2 : Cond.native ⟨"java/lang/Object", "clone", "()Ljava/lang/Object;"⟩ ∈ TBL) (h3 : Cond.instanceMethod ⟨"java/lang/Object", "clone", "()Ljava/lang/Object;"⟩ ∈ TBL) (h4 : Cond.selects "[I" ⟨"[I", "clone", "()Ljava/lang/Object;"⟩ ⟨"java/lang/Object", "clone", "()Ljava/lang/Object;"⟩ ∈ TBL)
    (ha : hT g a = some (100, n)) (hF : 1 ≤ R.frames) (hL : (rest.map fun v => v.category).sum + 14 ≤ R.locals) (hc : cells + 1 ≤ R.cells) (hs : slots + n ≤ R.slots) (hdg : decode cc pc = .ok (.invokevirtual index, 3))
    (kk : ∀ (q : Nat) (g2 : Sg) (H1 : Heap), hT g q = none → g2 = cI (nO g q 100 n) q (aI g a) → WP D cA sz g2 H1 → va_S (oA sz) s.heap H1 locs → W p l e R s m args below meth c H1 locs (cells + 1) (slots + n) Q (F0 m (pc + 3) ls (.ref q :: rest))) : W p l e R s m args below meth c H locs cells slots Q (F0 m pc ls (.ref a :: rest)) := by
  obtain ⟨hx, hb, hml, hown, hts⟩ := S
  obtain ⟨L, hL1, hP, hD⟩ := hG
  obtain ⟨hm, q0, hq⟩ := WP.at (cA := cA) (by rw [ha]; exact fun h => nomatch h) hL1
  rw [enc_I ha (by omega) (by omega)] at hq
  have hnm : s.vm.findClass "[I" = some (cA 100) := (hZ.1.2 0 _ rfl).2
  refine va_clone hx hb (hml.trans hsz.symm) hown (hts _ hl) (hts _ h1) (hts _ h2) (hts _ h3) (hts _ h4) hca hZ.1 hP hD hS hZ.A q0 0 hq rfl hnm (va_fit (fun _ _ => rfl)) hF hL hc hs hdg (fun q H1 _ k1 k2 k3 => ?_)
  have hqL : q ∉ L := va_pl_fresh2 (X := []) (by rw [List.nil_append]; exact k2)
  have h0 : hT g q = none := by
    cases h : hT g q with
    | none => rfl
    | some x => exact absurd ((hL1 q).mpr (by rw [h]; exact fun h => nomatch h)) hqL
  have he : enc cA (cI (nO g q 100 n) q (aI g a)) q = .inl (cA 100, n, .inl (aI g a)) := enc_cI (hT_nO g q 100 n) (by omega) (by omega)
  have hs9 : va_pl L (enc cA g) ++ [(q, .inl (cA 100, n, .inl (aI g a)))] = va_pl (L ++ [q]) (enc cA (cI (nO g q 100 n) q (aI g a))) := by
    rw [va_pl_push hqL]
    refine va_pl_congr (fun b => ?_)
    by_cases hb9 : b = q
    · subst hb9; rw [va_up_self, he]
    · rw [va_up_ne _ _ hb9, enc_cI_ne hb9, enc_nO_ne hb9]
  rw [hs9] at k1 k2
  refine kk q _ H1 h0 rfl ⟨L ++ [q], fun b => ?_, k1, k2⟩ k3
  rw [List.mem_append, List.mem_singleton, show hT (cI (nO g q 100 n) q (aI g a)) = hT (nO g q 100 n) from rfl]
  by_cases hb9 : b = q
  · subst hb9; simp [hT_nO]
  · rw [hT_nO_ne hb9, ← hL1 b]; simp [hb9]
/-- a stretch of an array -/
def cpOK (k : Nat) (g : Sg) (a b : Nat) (sp dp n : Int32) (sp1 dp1 n1 : Nat) : Prop := ∃ la lb, hT g a = some (k, la) ∧ hT g b = some (k, lb) ∧ sp = nI sp1 ∧ dp = nI dp1 ∧ n = nI n1 ∧ sp1 + n1 ≤ la ∧ dp1 + n1 ≤ lb ∧ la ≤ 1000000 ∧ lb ≤ 1000000
theorem r_arrI {sp dp n : Int32} {sp1 dp1 n1 : Nat} (S : CallFix p m c cc nL s args TBL own) (hsz : ls.size = nL) (hZ : Ws D cA sz z mi s) (hG : WP D cA sz g H) (hS : va_S (oA sz) s.heap H locs) (hl : Cond.methodLink own index arraycopyName ∈ TBL) (h1 : Cond.native arraycopyName ∈ TBL) (h2 : Cond.static arraycopyName ∈ TBL) (h3 : Cond.initialized "java/lang/System" ∈ TBL) (hc : cpOK 100 g a b sp dp n sp1 dp1 n1)
    (hF : 1 ≤ R.frames) (hL : (rest.map fun v => v.category).sum + (nativeFrameWords "java/lang/System" "arraycopy" 5 + 11) ≤ R.locals) (hdg : decode cc pc = .ok (.invokestatic index, 3))
    (kk : ∀ (g2 : Sg) (H1 : Heap) (locs1 : List Loc), g2 = cI g b (va_cpy (aI g a) (aI g b) sp1 dp1 n1) → WP D cA sz g2 H1 → va_S (oA sz) s.heap H1 locs1 → W p l e R s m args below meth c H1 locs1 cells slots Q (F0 m (pc + 3) ls rest)) : W p l e R s m args below meth c H locs cells slots Q (F0 m pc ls (.int n :: .int dp :: .ref b :: .int sp :: .ref a :: rest)) := by
  obtain ⟨hx, hb, hml, hown, hts⟩ := S
  obtain ⟨la, lb, ea, eb, rfl, rfl, rfl, l1, l2, l3, l4⟩ := hc
  obtain ⟨L, hL1, hP, hD⟩ := hG
  obtain ⟨hma, qa, hqa⟩ := WP.at (cA := cA) (by rw [ea]; exact fun h => nomatch h) hL1
  obtain ⟨hmb, qb, hqb⟩ := WP.at (cA := cA) (a := b) (by rw [eb]; exact fun h => nomatch h) hL1
  have hqb' := hqb
  rw [enc_I ea (by omega) (by omega)] at hqa
  rw [enc_I eb (by omega) (by omega)] at hqb
  have c1 : (nI sp1).toNatClampNeg = sp1 := nI_clamp (by omega)
  have c2 : (nI dp1).toNatClampNeg = dp1 := nI_clamp (by omega)
  have c3 : (nI n1).toNatClampNeg = n1 := nI_clamp (by omega)
  refine va_copyi hx hb (hml.trans hsz.symm) hown (hts _ hl) (hts _ h1) (hts _ h2) (hts _ h3) hZ.1 hP hD hS qa qb 0 0 hqa hqb rfl rfl rfl (nI_pos (by omega)) (nI_pos (by omega)) (nI_pos (by omega)) (by rw [c1, c3]; exact l1) (by rw [c2, c3]; exact l2) (fun _ _ => rfl) hF hL hdg (fun H1 locs1 k1 k2 k3 => ?_)
  rw [c1, c2, c3] at k1 k2
  exact kk _ H1 locs1 rfl (WP.upd hL1 rfl hD hmb hqb' (enc_cI eb (by omega) (by omega)) (fun b hb => enc_cI_ne hb) k1 k2) k3
theorem r_arrO {sp dp n : Int32} {sp1 dp1 n1 : Nat} (S : CallFix p m c cc nL s args TBL own) (hsz : ls.size = nL) (hZ : Ws D cA sz z mi s) (hG : WP D cA sz g H) (hS : va_S (oA sz) s.heap H locs) (hl : Cond.methodLink own index arraycopyName ∈ TBL) (h1 : Cond.native arraycopyName ∈ TBL) (h2 : Cond.static arraycopyName ∈ TBL) (h3 : Cond.initialized "java/lang/System" ∈ TBL) (hc : cpOK 106 g a b sp dp n sp1 dp1 n1) (hel : ∀ i : Nat, i < n1 → ∀ y : Nat, aR g a (sp1 + i) = some y → isK g y [2, 3])
    (hF : 1 ≤ R.frames) (hL : (rest.map fun v => v.category).sum + (nativeFrameWords "java/lang/System" "arraycopy" 5 + 11) ≤ R.locals) (hdg : decode cc pc = .ok (.invokestatic index, 3))
    (kk : ∀ (g2 : Sg) (H1 : Heap) (locs1 : List Loc), g2 = cR g b (va_cpy (aR g a) (aR g b) sp1 dp1 n1) → WP D cA sz g2 H1 → va_S (oA sz) s.heap H1 locs1 → W p l e R s m args below meth c H1 locs1 cells slots Q (F0 m (pc + 3) ls rest)) : W p l e R s m args below meth c H locs cells slots Q (F0 m pc ls (.int n :: .int dp :: .ref b :: .int sp :: .ref a :: rest)) := by
  obtain ⟨hx, hb, hml, hown, hts⟩ := S
  obtain ⟨la, lb, ea, eb, rfl, rfl, rfl, l1, l2, l3, l4⟩ := hc
  have hG' := hG
  obtain ⟨L, hL1, hP, hD⟩ := hG
  obtain ⟨hma, qa, hqa⟩ := WP.at (cA := cA) (by rw [ea]; exact fun h => nomatch h) hL1
  obtain ⟨hmb, qb, hqb⟩ := WP.at (cA := cA) (a := b) (by rw [eb]; exact fun h => nomatch h) hL1
  have hqb' := hqb
  rw [enc_R ea (by omega)] at hqa
  rw [enc_R eb (by omega)] at hqb
  have c1 : (nI sp1).toNatClampNeg = sp1 := nI_clamp (by omega)
  have c2 : (nI dp1).toNatClampNeg = dp1 := nI_clamp (by omega)
  have c3 : (nI n1).toNatClampNeg = n1 := nI_clamp (by omega)
  have any : ∀ y : Nat, isK g y [2, 3] → va_Any "java/lang/Object" s H y := fun y hy => by
    rcases isK2 hy with ⟨n0, hk⟩ | ⟨n0, hk⟩
    · obtain ⟨_, q2, hq2⟩ := WP.at (cA := cA) (a := y) (by rw [hk]; exact fun h => nomatch h) hL1
      rw [enc_obj hk (by omega)] at hq2
      exact va_rAny hZ.1 hP hq2 rfl (fun comp c0 f1 f2 => vb_asgC (hZ.2.2.2.2.2.2.2.1 ("WeaveCore$Cut", "java/lang/Object") (by decide)) comp c0 f1 f2)
    · obtain ⟨_, q2, hq2⟩ := WP.at (cA := cA) (a := y) (by rw [hk]; exact fun h => nomatch h) hL1
      rw [enc_obj hk (by omega)] at hq2
      exact va_rAny hZ.1 hP hq2 rfl (fun comp c0 f1 f2 => vb_asgC (hZ.2.2.2.2.2.2.2.1 ("WeaveCore$Node", "java/lang/Object") (by decide)) comp c0 f1 f2)
  refine va_copyM hx hb (hml.trans hsz.symm) hown (hts _ hl) (hts _ h1) (hts _ h2) (hts _ h3) hZ.1 hP hD hS qa qb 6 6 hqa hqb rfl rfl (nI_pos (by omega)) (nI_pos (by omega)) (nI_pos (by omega)) (by rw [c1, c3]; exact l1) (by rw [c2, c3]; exact l2) (fun i hi y hy => any y (hel i (by rw [c3] at hi; exact hi) y (by rw [c1] at hy; exact hy))) hF hL hdg (fun H1 locs1 k1 k2 k3 => ?_)
  rw [c1, c2, c3] at k1 k2
  exact kk _ H1 locs1 rfl (WP.upd hL1 rfl hD hmb hqb' (enc_cR eb (by omega)) (fun b hb => enc_cR_ne hb) k1 k2) k3
theorem WP.recvA {k : Nat} {ty : FieldType} (hZ : Ws D cA sz z mi s) (hG : WP D cA sz g H) (ha : hT g a = some (k, n)) (hk : 100 ≤ k) : ∃ cell : Cell, H[a]? = some cell ∧ cell.vm.isStatics = false ∧ cell.cls = cA k := by
  obtain ⟨L, hL1, hP, hD⟩ := hG
  obtain ⟨hm, q0, hq⟩ := WP.at (cA := cA) (by rw [ha]; exact fun h => nomatch h) hL1
  rw [enc_arr ha hk] at hq
  refine ⟨_, hP q0 _ hq, ?_, ?_⟩
  · unfold vp_cell
    split <;> rfl
  · unfold vp_cell
    split <;> rfl
theorem r_getC (S : CallFix p m c cc nL s args TBL own) (hsz : ls.size = nL) (hZ : Ws D cA sz z mi s) (hG : WP D cA sz g H) (hl : Cond.methodLink own index ⟨"java/lang/Object", "getClass", "()Ljava/lang/Class;"⟩ ∈ TBL) (h1 : Cond.selects "[Ljava/lang/Object;" ⟨"java/lang/Object", "getClass", "()Ljava/lang/Class;"⟩ ⟨"java/lang/Object", "getClass", "()Ljava/lang/Class;"⟩ ∈ TBL) (h2 : Cond.instanceMethod ⟨"java/lang/Object", "getClass", "()Ljava/lang/Class;"⟩ ∈ TBL) (h3 : Cond.native ⟨"java/lang/Object", "getClass", "()Ljava/lang/Class;"⟩ ∈ TBL)
    (ha : hT g a = some (106, n)) (hF : 1 ≤ R.frames) (hL : (rest.map fun v => v.category).sum + 14 ≤ R.locals) (hdg : decode cc pc = .ok (.invokevirtual index, 3))
    (kk : W p l e R s m args below meth c H locs cells slots Q (F0 m (pc + 3) ls (.ref mi :: rest))) : W p l e R s m args below meth c H locs cells slots Q (F0 m pc ls (.ref a :: rest)) := by
  obtain ⟨hx, hb, hml, hown, hts⟩ := S
  obtain ⟨cell, e1, e2, e3⟩ := WP.recvA (ty := .int) hZ hG ha (by omega)
  have hnm : s.vm.findClass "[Ljava/lang/Object;" = some (cA 106) := by
    obtain ⟨_, _, _, _, _, f⟩ := (hZ.1.2 6 _ rfl).2
    exact f
  exact va_getC hx hb (hml.trans hsz.symm) hown (hts _ hl) (va_Nw.use rfl (hZ.2.2.2.2.2.2.2.2.2.2.2.2.2.2.2.2.2.2 _ (by decide))) (hts _ h1) (hts _ h2) (hts _ h3) hZ.2.2.2.2.2.2.2.2.2.2.2.2.2.2.2.2.2.1 ⟨cell, e1, e2, by rw [e3]; exact hnm⟩ hF hL hdg kk
theorem r_cast100 (S : CallFix p m c cc nL s args TBL own) (hZ : Ws D cA sz z mi s) (hG : WP D cA sz g H) (hl : (Cond.classLink own index "[I").before args s = true) (ha : hT g a = some (100, n)) (hdg : decode cc pc = .ok (.checkcast index, 3))
    (kk : W p l e R s m args below meth c H locs cells slots Q (F0 m (pc + 3) ls (.ref a :: rest))) : W p l e R s m args below meth c H locs cells slots Q (F0 m pc ls (.ref a :: rest)) := by
  obtain ⟨L, hL1, hP, hD⟩ := hG
  obtain ⟨hm, q0, hq⟩ := WP.at (cA := cA) (by rw [ha]; exact fun h => nomatch h) hL1
  rw [enc_arr ha (by omega)] at hq
  exact va_castA S.1 S.2.1 S.2.2.2.1 hl hP q0 hq (hZ.1.2 0 _ rfl).2 hdg kk
theorem r_cast106 (S : CallFix p m c cc nL s args TBL own) (hZ : Ws D cA sz z mi s) (hG : WP D cA sz g H) (hl : (Cond.classLink own index "[Ljava/lang/Object;").before args s = true) (ha : hT g a = some (106, n)) (hdg : decode cc pc = .ok (.checkcast index, 3))
    (kk : W p l e R s m args below meth c H locs cells slots Q (F0 m (pc + 3) ls (.ref a :: rest))) : W p l e R s m args below meth c H locs cells slots Q (F0 m pc ls (.ref a :: rest)) := by
  obtain ⟨L, hL1, hP, hD⟩ := hG
  obtain ⟨hm, q0, hq⟩ := WP.at (cA := cA) (by rw [ha]; exact fun h => nomatch h) hL1
  rw [enc_arr ha (by omega)] at hq
  have hnm : s.vm.findClass "[Ljava/lang/Object;" = some (cA 106) := by
    obtain ⟨_, _, _, _, _, f⟩ := (hZ.1.2 6 _ rfl).2
    exact f
  exact va_castA S.1 S.2.1 S.2.2.2.1 hl hP q0 hq hnm hdg kk
end HX
