theorem fw_mem {N Y : Nat → Nat} {n : Nat} : ∀ {L : List Nat} {b : Nat}, fwL N Y n L = some b → b ∈ L := by
  intro L
  have h : ∀ (L : List Nat) (o : Option Nat) (b : Nat), L.foldl (fwS N Y n) o = some b → o = some b ∨ b ∈ L := by
    intro L
    induction L with
    | nil => intro o b hb; exact Or.inl hb
    | cons g L ih =>
      intro o b hb
      rcases ih _ b hb with h1 | h1
      · rcases fwS_mem h1 with h2 | h2
        · exact Or.inl h2
        · exact Or.inr (by rw [h2]; exact List.mem_cons_self)
      · exact Or.inr (List.mem_cons_of_mem _ h1)
  intro b hb
  rcases h L none b hb with h1 | h1
  · cases h1
  · exact h1
theorem op_few {w h H : Nat} {sq : Nat → Nat} {p q al wa mo fo : Int32} {fn fs fy fb gk aS aN aY : Nat → Int32} {aE : Nat → Int64} {K : (Int32 × (Nat → Int32) × (Nat → Int64) × (Nat → Int32) × (Nat → Int32)) → Prop} (k : okS w h) (hT : TabOK w h H sq false al wa mo fn fs fy fb) (hgk : ∀ s, s < w * h → gk s = nI (sq s) ∧ sq s ≤ 11) (hK : ∀ u, K u) : wp_X10_few p q al fs fy (fun r => wp_X11_few p q (nI w) (nI h) (lN H) fo gk aS aE aN aY (fun r' u' => EqK r r' (K u'))) := by
  have hp := pow10 k
  have bad1 : inI p 0 (nI (91 - 1)) = 0 → wp_X11_few p q (nI w) (nI h) (lN H) fo gk aS aE aN aY (fun r' u' => EqK (-3) r' (K u')) := by
    intro h0
    unfold wp_X11_few
    refine s_in ?_
    rw [show (90 : Int32) = nI (91 - 1) from rfl, h0]
    exact ⟨fun _ => eqk _ (hK _), fun z => absurd rfl z⟩
  unfold wp_X10_few
  rcases tri p (N := 91) (by decide) (by decide) with ⟨h0, h1⟩ | ⟨h0, h2, h3, h1⟩ | ⟨n, hn, rfl, h1⟩
  · exact ⟨fun _ => bad1 h1, fun z => absurd h0 z⟩
  · exact ⟨fun z => absurd z h0, fun _ => ⟨fun _ => bad1 h1, fun z => absurd h2 z⟩⟩
  · refine ⟨fun z => absurd z (nI_pos (by omega)), fun _ => pk_lt 90 n (fun z => by omega) (fun _ => ?_) rfl rfl⟩
    have bad2 : inI q 0 (nI (2 - 1)) = 0 → wp_X11_few (nI n) q (nI w) (nI h) (lN H) fo gk aS aE aN aY (fun r' u' => EqK (-3) r' (K u')) := by
      intro g0
      unfold wp_X11_few
      refine s_in ?_
      rw [show (90 : Int32) = nI (91 - 1) from rfl, h1]
      refine ⟨fun z => absurd z (by decide), fun _ => s_in ?_⟩
      rw [show (1 : Int32) = nI (2 - 1) from rfl, g0]
      exact ⟨fun z => absurd rfl z, fun _ => eqk _ (hK _)⟩
    rcases tri q (N := 2) (by decide) (by decide) with ⟨g0, g1⟩ | ⟨g0, g2, g3, g1⟩ | ⟨j, hj, rfl, g1⟩
    · exact ⟨fun _ => bad2 g1, fun z => absurd g0 z⟩
    · refine ⟨fun z => absurd z g0, fun _ => ⟨fun z => ?_, fun _ => bad2 g1⟩⟩
      have z1 := Int32.le_iff_toInt_le.mp z
      have z2 := Int32.lt_iff_toInt_lt.mp g2
      have e1 : (1 : Int32).toInt = 1 := by decide
      have e2 : (nI (2 - 1)).toInt = 1 := by decide
      rw [e1] at z1
      rw [e2] at z2
      omega
    · refine ⟨fun z => absurd z (nI_pos (by omega)), fun _ => pk_le j 1 (fun _ => ?_) (fun z => by omega) rfl rfl⟩
      have hT2 := hT
      obtain ⟨t1, t2, t3, t4⟩ := hT2
      refine s_leastSided k (by omega) hT (fun g _ => by have := yards_le k sq g; omega) ?_
      obtain ⟨o, ho⟩ : ∃ o, o = fwL (fun g => pc (nds w h (H ||| pe w h sq (w * h)) g)) (sumF (yd sq) (w * h)) n (flS w h (mk (pBar sq) (w * h)) (2 ^ (w * h))) := ⟨_, rfl⟩
      rw [← ho]
      have mod : ∀ v : Int32, v = fewA (fun g => pc (nds w h (H ||| pe w h sq (w * h)) g)) (nI j) o → wp_X11_few (nI n) (nI j) (nI w) (nI h) (lN H) fo gk aS aE aN aY (fun r' u' => EqK v r' (K u')) := by
        intro v hv
        unfold wp_X11_few
        refine s_in ?_
        rw [show (90 : Int32) = nI (91 - 1) from rfl, h1]
        refine ⟨fun z => absurd z (by decide), fun _ => s_in ?_⟩
        rw [show (1 : Int32) = nI (2 - 1) from rfl, g1]
        refine ⟨fun _ => s_findFolds k hgk ?_, fun z => absurd z (by decide)⟩
        intro c a1 a2 a3 a4 hF
        refine s_mfew (by omega) (flS_len k (Nat.le_refl _)) hF (fun g => yards_le k sq g) (fun g hg => pc_le (nds_lt k _ (flS_mem.mp hg).1)) ?_
        rw [← ho, hv]
        exact eqk _ (hK _)
      cases o with
      | none => exact ⟨fun z => absurd rfl z, fun _ => mod _ rfl⟩
      | some g =>
        have hg := fw_mem ho.symm
        have hgl := (flS_mem.mp hg).1
        have hgf := (flS_mem.mp hg).2
        have cg : (nI g).toNatClampNeg = g := z_cl (by omega)
        refine ⟨fun _ => ⟨fun z => ⟨pk_in g 1024 (by omega), ?_⟩, fun z => ?_⟩, fun z => absurd z (z_m1 (by omega))⟩
        · refine mod _ ?_
          show fs (nI g).toNatClampNeg = if nI j = 0 then nI g else nI (pc (nds w h (H ||| pe w h sq (w * h)) g))
          rw [cg, (t4 g hgl).2.1, if_neg z, if_pos (show isFd w h (barP false sq (w * h)) g = true from hgf)]
          rfl
        · refine mod _ ?_
          show nI g = if nI j = 0 then nI g else nI (pc (nds w h (H ||| pe w h sq (w * h)) g))
          rw [if_pos z]
