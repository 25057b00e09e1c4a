section MOVED
variable {w h : Nat}
theorem geo_e4c : allS (fun w h => allB (w * h) fun s => decide (e4 w h s < 2 ^ ((w + 1) * h + w * (h + 1)))) = true := by decide +kernel
theorem nds_ec (k : okS w h) (U : Nat) {g : Nat} (hg : g < 2 ^ (w * h)) : nds w h U g < 2 ^ ecN w h := by
  unfold nds
  refine Nat.lt_of_le_of_lt (andn_le _ _) ?_
  rw [← xor_bnd k hg]
  exact xorF_lt (fun s hs => of_decide_eq_true (allB_iff.mp (allS_at geo_e4c k) s hs))
theorem nda_ec (k : okS w h) (bar U : Nat) {g : Nat} (hg : g < 2 ^ (w * h)) : nda w h bar U g < 2 ^ ecN w h := by
  unfold nda
  split
  · exact nds_ec k U hg
  · exact Nat.two_pow_pos _
theorem nda_0 (bar U : Nat) : nda w h bar U 0 = 0 := by
  unfold nda isFd
  rfl
def mvA (w h bar U g a : Nat) (p2 : Int32) : Int32 := if p2 = 0 then nI (pc (andn (nda w h bar U g) (nda w h bar U a))) else nI (carV w h (nda w h bar U g) (nda w h bar U a))
theorem s_m94 {na nb : Nat} {p2 : Int32} {ua va fa wa sa ea li fr pr : Nat → Int32} {Q : Int32 → ((Nat → Int32) × (Nat → Int32) × (Nat → Int32) × (Nat → Int32) × (Nat → Int32) × (Nat → Int32) × (Nat → Int32) × (Nat → Int32) × (Nat → Int32)) → Prop} (k : okS w h) (hna : na < 2 ^ 31) (hnb : nb < 2 ^ 31) (hQ : ∀ u, Q (if p2 = 0 then nI (pc (andn na nb)) else nI (carV w h na nb)) u) : bk_X11_moved_94 Q p2 (lN na) (nI w) (nI h) pr ua va fa wa sa ea li fr (lN nb) := by
  unfold bk_X11_moved_94
  refine ⟨fun z => ?_, fun z => ?_⟩
  · rw [if_neg z] at hQ
    exact s_mcarried k hna hnb (fun u => hQ _)
  · rw [if_pos z] at hQ
    rw [z_andnL]
    exact s_bits (Nat.lt_of_le_of_lt (andn_le _ _) hna) (hQ _)
theorem op_moved {H : Nat} {sq : Nat → Nat} {ro : List Nat} {p1 p2 al wa mo nc nm ce cp : Int32} {fn fs fy fb arc arm gk c1 c2 c3 c4 c5 c6 c7 c8 c9 c10 c11 c12 m1 m2 m3 m4 m5 m6 m7 m8 m9 : Nat → Int32} {K : (Int32 × Int32 × (Nat → Int32) × (Nat → Int32) × (Nat → Int32) × (Nat → Int32) × (Nat → Int32) × (Nat → Int32) × (Nat → Int32) × (Nat → Int32) × (Nat → Int32) × (Nat → Int32) × (Nat → Int32) × (Nat → Int32)) → ((Nat → Int32) × (Nat → Int32) × (Nat → Int32) × (Nat → Int32) × (Nat → Int32) × (Nat → Int32) × (Nat → Int32) × (Nat → Int32) × (Nat → Int32)) → Prop} (k : okS w h) (hT : TabOK w h H sq false al wa mo fn fs fy fb) (hgk : ∀ s, s < w * h → gk s = nI (sq s) ∧ sq s ≤ 11) (hRc : RR (2 ^ (w * h)) ro nc arc) (hRm : RR (2 ^ (w * h)) ro nm arm) (hK : ∀ u u', K u u') : wp_X10_moved p1 p2 (nI w) (nI h) fn fs nc arc ce cp c1 c2 c3 c4 c5 c6 c7 c8 c9 c10 c11 c12 (fun r u => wp_X11_moved p1 p2 (nI w) (nI h) (lN H) nm gk arm m1 m2 m3 m4 m5 m6 m7 m8 m9 (fun r' u' => EqK r r' (K u u'))) := by
  obtain ⟨rfl, hl20, hac⟩ := hRc
  obtain ⟨rfl, _, ham⟩ := hRm
  have hp := pow10 k
  have hec : ecN w h ≤ 31 := ec_le k
  obtain ⟨bar, hbar⟩ : ∃ bar, mk (pBar sq) (w * h) = bar := ⟨_, rfl⟩
  obtain ⟨U, hU⟩ : ∃ U, H ||| pe w h sq (w * h) = U := ⟨_, rfl⟩
  have hout : inI p1 0 (nI ro.length - 1) = 0 → ∀ u, wp_X11_moved p1 p2 (nI w) (nI h) (lN H) (nI ro.length) gk arm m1 m2 m3 m4 m5 m6 m7 m8 m9 (fun r' u' => EqK (-2) r' (K u u')) := by
    intro hz u
    unfold wp_X11_moved
    refine s_in ?_
    rw [hz]
    exact ⟨fun z => absurd rfl z, fun _ => eqk _ (hK _ _)⟩
  unfold wp_X10_moved
  refine ⟨fun q1 => hout ?_ _, fun q1 => ⟨fun q2 => ?_, fun q2 => hout ?_ _⟩⟩
  · unfold inI
    rw [if_pos q1]
  · have hlen : 0 < ro.length := by
      apply Nat.pos_of_ne_zero
      intro e
      rw [e] at q2
      exact q1 q2
    obtain ⟨n, hn, rfl⟩ : ∃ n, n < ro.length ∧ p1 = nI n := by
      rcases tri p1 (N := ro.length) hlen (by omega) with ⟨a, _⟩ | ⟨_, _, a, _⟩ | ⟨j, hj, e, _⟩
      · exact absurd a q1
      · exact absurd q2 a
      · exact ⟨j, hj, e⟩
    have hin1 : inI (nI n) 0 (nI ro.length - 1) = 1 := by
      rw [z_minus1 hlen]
      have := inI_nat (a := n) (lo := 0) (hi := ro.length - 1) (by omega) (by omega) (by omega)
      rw [if_pos ⟨by omega, by omega⟩] at this
      exact this
    have hwh : ∀ (r : Int32) (u : Int32 × Int32 × (Nat → Int32) × (Nat → Int32) × (Nat → Int32) × (Nat → Int32) × (Nat → Int32) × (Nat → Int32) × (Nat → Int32) × (Nat → Int32) × (Nat → Int32) × (Nat → Int32) × (Nat → Int32) × (Nat → Int32)), inI p2 0 1 = 0 → r = -3 → wp_X11_moved (nI n) p2 (nI w) (nI h) (lN H) (nI ro.length) gk arm m1 m2 m3 m4 m5 m6 m7 m8 m9 (fun r' u' => EqK r r' (K u u')) := by
      intro r u hz e
      subst e
      unfold wp_X11_moved
      refine s_in ?_
      rw [hin1]
      refine ⟨fun _ => s_in ?_, fun z => absurd z (by decide)⟩
      rw [hz]
      exact ⟨fun z => absurd rfl z, fun _ => eqk _ (hK _ _)⟩
    refine ⟨fun q3 => hwh _ _ ?_ rfl, fun q3 => ⟨fun q4 => ?_, fun q4 => hwh _ _ ?_ rfl⟩⟩
    · unfold inI
      rw [if_pos q3]
    · have hin2 : inI p2 0 1 = 1 := by
        unfold inI
        rw [if_neg q3, if_neg (fun y => (fa_of_lt y).2.1 q4)]
      obtain ⟨g, hg⟩ : ∃ g, ro.getD n 0 = g := ⟨_, rfl⟩
      have hgc := hac n hn
      have hgm := ham n hn
      rw [hg] at hgc hgm
      have hgl := hgc.2
      obtain ⟨t1, t2, _, _⟩ := tab_f hT hgl
      rw [hbar, hU] at t1 t2
      have hig := pk_in g 1024 (by omega)
      have hin := pk_in n 20 (by omega)
      have htz := tab_f hT (Nat.two_pow_pos (w * h))
      rw [hbar, hU] at htz
      have hedg : isFd w h bar g = true → edM w h H sq g = nda w h bar U g := by
        intro hf
        rw [← hbar] at hf
        rw [edM_nds k hgl hf]
        unfold nda
        rw [← hbar, if_pos hf, hU]
      have hndl : ∀ x, x < 2 ^ (w * h) → nda w h bar U x < 2 ^ 31 := fun x hx => nda_lt k hx
      refine ⟨hin, fun y5 e5 => ?_⟩
      rw [z_cl (show n < 2 ^ 31 by omega), hgc.1] at e5
      subst e5
      have refNo : ∀ (r : Int32) (u : Int32 × Int32 × (Nat → Int32) × (Nat → Int32) × (Nat → Int32) × (Nat → Int32) × (Nat → Int32) × (Nat → Int32) × (Nat → Int32) × (Nat → Int32) × (Nat → Int32) × (Nat → Int32) × (Nat → Int32) × (Nat → Int32)), isFd w h bar g = false → r = -1 → wp_X11_moved (nI n) p2 (nI w) (nI h) (lN H) (nI ro.length) gk arm m1 m2 m3 m4 m5 m6 m7 m8 m9 (fun r' u' => EqK r r' (K u u')) := by
        intro r u hf e
        subst e
        unfold wp_X11_moved
        refine s_in ?_
        rw [hin1]
        refine ⟨fun _ => s_in ?_, fun z => absurd z (by decide)⟩
        rw [hin2]
        refine ⟨fun _ => ⟨hin, ?_⟩, fun z => absurd z (by decide)⟩
        rw [z_cl (show n < 2 ^ 31 by omega), hgm.1]
        refine s_misFold k hgl hgk ?_
        rw [hbar, hf]
        exact ⟨fun _ => eqk _ (hK _ _), fun z => absurd rfl z⟩
      by_cases hf : isFd w h bar g = true
      · have comp90 : ∀ (a : Nat) (Q : Int32 → (Int32 × Int32 × (Nat → Int32) × (Nat → Int32) × (Nat → Int32) × (Nat → Int32) × (Nat → Int32) × (Nat → Int32) × (Nat → Int32) × (Nat → Int32) × (Nat → Int32) × (Nat → Int32) × (Nat → Int32) × (Nat → Int32)) → Prop), a < 2 ^ (w * h) → (∀ u, Q (mvA w h bar U g a p2) u) → bk_X10_moved_90 Q p2 (nI g) (nI a) (nI w) (nI h) fn ce cp c1 c2 c3 c4 c5 c6 c7 c8 c9 c10 c11 c12 := by
          intro a Q ha hQ
          have hta := (tab_f hT ha).1
          rw [hbar, hU] at hta
          have t1' : fn g = nI (nda w h bar U g) := t1
          have hta' : fn a = nI (nda w h bar U a) := hta
          unfold mvA at hQ
          unfold bk_X10_moved_90
          refine ⟨fun z => ?_, fun z => ?_⟩
          · rw [if_neg z] at hQ
            refine ⟨hig, pk_in a 1024 (by omega), ?_⟩
            rw [z_cl (show g < 2 ^ 31 by omega), z_cl (show a < 2 ^ 31 by omega), t1', hta']
            exact s_cleast k (nda_ec k bar U hgl) (nda_ec k bar U ha) (fun u => hQ _)
          · rw [if_pos z] at hQ
            unfold wp_X3_liftedTo
            refine ⟨hig, pk_in a 1024 (by omega), ?_⟩
            rw [z_cl (show g < 2 ^ 31 by omega), z_cl (show a < 2 ^ 31 by omega), t1', hta', z_andn]
            exact s_bitCount (Nat.lt_of_le_of_lt (andn_le _ _) (hndl g hgl)) (hQ _)
        by_cases hn0 : n = 0
        · subst hn0
          refine ⟨fun z => absurd rfl z, fun _ => ?_⟩
          unfold bk_X10_moved_59 wp_X3_isFold
          rw [z_cl (show g < 2 ^ 31 by omega), t2, if_pos hf]
          have hpc := pc_le (nds_lt k U hgl)
          refine ⟨hig, fun z => absurd z (z_m1 (by omega)), fun _ => ⟨fun z => absurd z (by decide), fun _ => ⟨fun _ => ?_, fun z => absurd (show nI 0 ≤ 0 by decide) z⟩⟩⟩
          refine comp90 0 _ (Nat.two_pow_pos _) (fun u => ?_)
          unfold wp_X11_moved
          refine s_in ?_
          rw [hin1]
          refine ⟨fun _ => s_in ?_, fun z => absurd z (by decide)⟩
          rw [hin2]
          refine ⟨fun _ => ⟨hin, ?_⟩, fun z => absurd z (by decide)⟩
          rw [z_cl (show 0 < 2 ^ 31 by decide), hgm.1]
          refine s_misFold k hgl hgk ?_
          rw [hbar, if_pos hf]
          refine ⟨fun z => absurd z (by decide), fun _ => ⟨fun _ => ?_, fun z => absurd (show nI 0 ≤ 0 by decide) z⟩⟩
          unfold bk_X11_moved_63
          rw [z_cl (show 0 < 2 ^ 31 by decide), hgm.1]
          refine ⟨hin, s_edgesOf k hgl hgk ⟨fun z => absurd rfl z, fun _ => ?_⟩⟩
          rw [hedg hf]
          refine s_m94 (nb := 0) k (hndl g hgl) (by decide) (fun u' => ?_)
          unfold mvA
          rw [nda_0]
          exact eqk _ (hK _ _)
        · have hn1 : ¬ nI n = 0 := nI_ne0 (by omega) (by omega)
          have e1 : nI n - 1 = nI (n - 1) := z_minus1 (by omega)
          have hin' := pk_in (n - 1) 20 (by omega)
          obtain ⟨a, ha⟩ : ∃ a, ro.getD (n - 1) 0 = a := ⟨_, rfl⟩
          have hgc' := hac (n - 1) (by omega)
          have hgm' := ham (n - 1) (by omega)
          rw [ha] at hgc' hgm'
          have hal := hgc'.2
          have hia := pk_in a 1024 (by omega)
          have ht2 := (tab_f hT hal).2.1
          rw [hbar, hU] at ht2
          have hnle : ¬ nI n ≤ 0 := fun y => by
            have := (fa_le _ _).mp y
            rw [nI_toInt (by omega)] at this
            have e0 : (0 : Int32).toInt = 0 := by decide
            rw [e0] at this
            omega
          rw [e1]
          refine ⟨fun _ => ⟨hin', ?_⟩, fun z => absurd z hn1⟩
          rw [z_cl (show n - 1 < 2 ^ 31 by omega), hgc'.1]
          unfold bk_X10_moved_59 wp_X3_isFold
          rw [z_cl (show g < 2 ^ 31 by omega), z_cl (show a < 2 ^ 31 by omega), t2, if_pos hf, ht2]
          have hpc := pc_le (nds_lt k U hgl)
          have hpc2 := pc_le (nds_lt k U hal)
          refine ⟨hig, fun z => absurd z (z_m1 (by omega)), fun _ => ⟨fun z => absurd z (by decide), fun _ => ⟨fun z => absurd z hnle, fun _ => ⟨hia, ?_⟩⟩⟩⟩
          have refGo : ∀ (r : Int32) (u : Int32 × Int32 × (Nat → Int32) × (Nat → Int32) × (Nat → Int32) × (Nat → Int32) × (Nat → Int32) × (Nat → Int32) × (Nat → Int32) × (Nat → Int32) × (Nat → Int32) × (Nat → Int32) × (Nat → Int32) × (Nat → Int32)), (isFd w h bar a = true → r = mvA w h bar U g a p2) → (isFd w h bar a = false → r = -1) → wp_X11_moved (nI n) p2 (nI w) (nI h) (lN H) (nI ro.length) gk arm m1 m2 m3 m4 m5 m6 m7 m8 m9 (fun r' u' => EqK r r' (K u u')) := by
            intro r u hy hn
            unfold wp_X11_moved
            refine s_in ?_
            rw [hin1]
            refine ⟨fun _ => s_in ?_, fun z => absurd z (by decide)⟩
            rw [hin2]
            refine ⟨fun _ => ⟨hin, ?_⟩, fun z => absurd z (by decide)⟩
            rw [z_cl (show n < 2 ^ 31 by omega), hgm.1]
            refine s_misFold k hgl hgk ?_
            rw [hbar, if_pos hf, e1]
            refine ⟨fun z => absurd z (by decide), fun _ => ⟨fun z => absurd z hnle, fun _ => ⟨hin', ?_⟩⟩⟩
            rw [z_cl (show n - 1 < 2 ^ 31 by omega), hgm'.1]
            refine s_misFold k hal hgk ?_
            rw [hbar]
            by_cases hfa : isFd w h bar a = true
            · rw [if_pos hfa, hy hfa]
              refine ⟨fun _ => ?_, fun z => absurd z (by decide)⟩
              unfold bk_X11_moved_63
              rw [z_cl (show n < 2 ^ 31 by omega), hgm.1]
              refine ⟨hin, s_edgesOf k hgl hgk ⟨fun _ => ?_, fun z => absurd z hn1⟩⟩
              rw [hedg hf, e1, z_cl (show n - 1 < 2 ^ 31 by omega), hgm'.1]
              refine ⟨hin', s_edgesOf k hal hgk ?_⟩
              have hedga : edM w h H sq a = nda w h bar U a := by
                have hfa' := hfa
                rw [← hbar] at hfa'
                rw [edM_nds k hal hfa']
                unfold nda
                rw [if_pos hfa, hU]
              rw [hedga]
              exact s_m94 k (hndl g hgl) (hndl a hal) (fun u' => eqk _ (hK _ _))
            · rw [if_neg hfa, hn (Bool.eq_false_iff.mpr hfa)]
              exact ⟨fun z => absurd rfl z, fun _ => eqk _ (hK _ _)⟩
          by_cases hfa : isFd w h bar a = true
          · rw [if_pos hfa]
            refine ⟨fun z => absurd z (z_m1 (by omega)), fun _ => ⟨fun _ => comp90 a _ hal (fun u => refGo _ _ (fun _ => rfl) (fun z => ?_)), fun z => absurd z (by decide)⟩⟩
            rw [hfa] at z
            exact absurd z (by decide)
          · rw [if_neg hfa]
            exact ⟨fun _ => ⟨fun z => absurd rfl z, fun _ => refGo _ _ (fun z => absurd z hfa) (fun _ => rfl)⟩, fun z => absurd rfl z⟩
      · have hf' := Bool.eq_false_iff.mpr hf
        have h59 : ∀ s0, bk_X10_moved_59 (fun r u => wp_X11_moved (nI n) p2 (nI w) (nI h) (lN H) (nI ro.length) gk arm m1 m2 m3 m4 m5 m6 m7 m8 m9 (fun r' u' => EqK r r' (K u u'))) (nI n) p2 (nI g) (nI w) (nI h) fn fs ce cp c1 c2 c3 c4 c5 c6 c7 c8 c9 c10 c11 c12 s0 := by
          intro s0
          unfold bk_X10_moved_59 wp_X3_isFold
          rw [z_cl (show g < 2 ^ 31 by omega), t2, if_neg hf]
          exact ⟨hig, fun _ => ⟨fun _ => refNo _ _ hf' rfl, fun z => absurd rfl z⟩, fun z => absurd rfl z⟩
        refine ⟨fun z => ⟨?_, h59 _⟩, fun _ => h59 _⟩
        have hn0 : n ≠ 0 := fun e => z (by rw [e]; rfl)
        rw [z_minus1 (by omega)]
        exact pk_in (n - 1) 20 (by omega)
    · unfold inI
      rw [if_neg q3, if_pos (fa_of_nle q4)]
  · unfold inI
    have h1 := fa_of_nlt q2
    have h2 := pk_sub_toInt (a := ro.length) (b := 1) (by omega) (by decide)
    have h3 : nI ro.length - 1 < p1 := by
      rw [fa_lt]
      have h4 : (nI ro.length - 1).toInt = (ro.length : Int) - 1 := h2
      rw [h4]
      have h5 := (fa_le _ _).mp h1
      rw [nI_toInt (by omega)] at h5
      omega
    rw [if_neg q1, if_pos h3]
end MOVED
