section MTS
variable {z mi mc ms : Nat} {G : AG} {M : MA} {g : Sg} {V : Nat → Nat}
theorem t_tops (hw : WF G) (hR : RM G M g) (hV : VS g (M.f 55) 0 (vA G)) {post : Int32 → Sg → Prop} (k : ∀ (K : List Nat) (h : Nat → Int32), K.length ≤ 16 → K.Nodup → (∀ q, q ∈ K ↔ q ∈ hdL G G.na) → K.length = (hdL G G.na).length → (∀ j q, K[j]? = some q → h j = nI q) → post (nI K.length) (cI g (M.f 52) h)) : w_G_tops z mi mc ms post g M.gr (some (M.f 55)) 0 (some (M.f 52)) := by
  have hna := hw.na_le
  have hne := hw.ne_le
  have key : ∀ d s, s + d = G.na → ∀ (K : List Nat) (h : Nat → Int32), K.length = (hdL G s).length → K.Nodup → (∀ q, q ∈ K ↔ q ∈ hdL G s) → (∀ j q, K[j]? = some q → h j = nI q) → ∀ kc ks, kc ≤ mc → ks ≤ ms → w_G_tops_6 z mi mc ms post (d + 1) kc ks (cI g (M.f 52) h) M.gr (some (M.f 55)) 0 (some (M.f 52)) (nI K.length) (nI s) := by
    intro d
    induction d with
    | zero =>
      intro s hs K h hl hnd hm hh kc ks hk hk'
      have : s = G.na := by omega
      subst this
      have hR' := hR.cA hw (i := 52) (by decide) h
      have h1 := hR'.k.gr
      have hlen := (hdL_mem hw G.na (Nat.le_refl _)).1
      unfold w_G_tops_6
      (refine ⟨?_, ?_⟩; (focus (first | exact hasI_of (by assumption) (by decide) | exact hasR_of (by assumption) (by decide))); rintro _ rfl; try rw [hR'.c.na])
      exact ⟨fun _ => k K h (by omega) hnd hm hl hh, fun h => absurd (Int32.le_refl _) h⟩
    | succ d ih =>
      intro s hs K h hl hnd hm hh kc ks hk hk'
      have hs' : s < G.na := by omega
      have hR' := hR.cA hw (i := 52) (by decide) h
      have h1 := hR'.k.gr
      have hV' : VS (cI g (M.f 52) h) (M.f 55) 0 (vA G) := VS.mk hV.k (fun t ht => by
        rw [aI_cI_ne g h (fun e => absurd (hR.k.inj 55 52 (by decide) (by decide) e) (by decide))]
        exact hV.v t ht) hV.b
      obtain ⟨m1, m2⟩ := hdL_mem hw s (by omega)
      have skip : ¬ tp G s → w_G_tops_6 z mi mc ms post (d + 1) kc ks (cI g (M.f 52) h) M.gr (some (M.f 55)) 0 (some (M.f 52)) (nI K.length) (nI s + 1) := fun hnt => by
        rw [nI_1]
        have e1 : hdL G (s + 1) = hdL G s := by
          show (if tp G s then _ else _) = _
          rw [if_neg hnt]
        exact ih (s + 1) (by omega) K h (by rw [e1]; exact hl) hnd (by rw [e1]; exact hm) hh kc ks hk hk'
      unfold w_G_tops_6
      (refine ⟨?_, ?_⟩; (focus (first | exact hasI_of (by assumption) (by decide) | exact hasR_of (by assumption) (by decide))); rintro _ rfl; try rw [hR'.c.na])
      refine ⟨fun h => absurd ((lI (by omega) (by omega)).mp h) (by omega), fun _ => ?_⟩
      refine ⟨⟨_, _, by assumption, by decide⟩, 0, 0, by omega, by omega, ?_⟩
      refine t_lastIn hw hR' hV' hs' (fun h0 => ⟨fun h => absurd h (by decide), fun _ => skip (fun h => by have := h.1; omega)⟩) (fun h0 => ?_)
      have hlt : la G s < G.ne := hw.ev_lt s (G.ct s - 1) hs' (by omega)
      refine ⟨fun _ => ⟨_, t_t39 hw hR' hV' hlt hk hk' (fun ht => ⟨K.length + 1, ?_⟩) (fun hf => skip (fun h => by
        obtain ⟨t, q1, q2, q3⟩ := hf
        exact h.2 t q1 q2 q3)) G.na 0 (by omega) 1 (Or.inl ⟨rfl, fun t ht => absurd ht (by omega)⟩)⟩, fun h => absurd (nI_pos' (by omega)) h⟩
      have htp : tp G s := ⟨h0, ht⟩
      have e1 : hdL G (s + 1) = hdL G s ++ [la G s] := by
        show (if tp G s then _ else _) = _
        rw [if_pos htp]
      have hKlt : ∀ q ∈ K, q < G.ne := fun q hq => by
        obtain ⟨t, ht1, ht2, rfl⟩ := (m2 q).mp ((hm q).mp hq)
        exact hw.ev_lt t _ (by omega) (by have := ht2.1; omega)
      have hnm : la G s ∉ K := fun hq => by
        obtain ⟨t, ht1, ht2, he⟩ := (m2 _).mp ((hm _).mp hq)
        have q1 := hw.sl_ev s (G.ct s - 1) hs' (by omega)
        have q2 := hw.sl_ev t (G.ct t - 1) (by omega) (by have := ht2.1; omega)
        have : G.sl (la G s) = G.sl (la G t) := by rw [he]
        rw [show la G s = G.ev s (G.ct s - 1) from rfl, show la G t = G.ev t (G.ct t - 1) from rfl, q1, q2] at this
        omega
      refine t_t104 hw hR hlt hKlt (by omega) hk hk' (fun i h' hi hh' => ?_) K.length (Nat.le_refl _) h (fun j q _ hq => hh j q hq) (fun j q hj hq => by
        have := (List.getElem?_eq_some_iff.mp hq).1
        omega)
      have hlen : (K.take i ++ la G s :: K.drop i).length = K.length + 1 := by
        rw [List.length_append, List.length_cons, List.length_take, List.length_drop]; omega
      have hperm : (K.take i ++ la G s :: K.drop i).Perm (la G s :: K) := by
        have := List.perm_middle (a := la G s) (l₁ := K.take i) (l₂ := K.drop i)
        rw [List.take_append_drop] at this
        exact this
      rw [nI_1, nI_1, ← hlen]
      refine ih (s + 1) (by omega) _ h' (by rw [hlen, e1, List.length_append, hl]; rfl) (hperm.nodup_iff.mpr (List.nodup_cons.mpr ⟨hnm, hnd⟩)) (fun q => ?_) hh' kc ks hk hk'
      rw [hperm.mem_iff, e1, List.mem_cons, List.mem_append, hm q, List.mem_singleton]
      exact Or.comm
  unfold w_G_tops
  have := key G.na 0 (by omega) [] (aI g (M.f 52)) rfl List.nodup_nil (fun q => Iff.rfl) (fun j q hq => by cases hq) 0 0 (by omega) (by omega)
  rw [cI_self] at this
  exact ⟨_, this⟩
end MTS
