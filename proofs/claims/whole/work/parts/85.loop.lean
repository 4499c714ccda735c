/-! the law's loop -/
theorem w_law {Q : aQ} {u0 : aS} (i2 : hI u0 0 (-1) ≤ 3072) (i3 : 0 ≤ hI u0 0 (-1)) (hr : ∀ j, hI u0 0 j ≤ 2147483647) (hq : ∀ u, Q (some (vI 1)) u) : ∀ (m : Nat) (i : Int) (u : aS) (A : Al) (c s : Nat), Iv u0 u A → 0 ≤ i → hI u0 0 (-1) < i + 6 * (m + 1) → i ≤ 3078 → 600 * m ≤ c → 4200 * m ≤ s → wp (wpm 9) cd_L_law Q 18 [vR 0, vR 8, vR 139, vI i] [] u c s
  | 0, i, u, A, c, s, h, i0, hm, ib, hc, hs => by
    have e1 := h.2.2.2 (-1)
    refine run [] 60 ?_
    refine z_gq (by omega) ?_
    refine z_bq (fun hz => ?_) (fun hz => by omega)
    exact hq u
  | m + 1, i, u, A, c, s, h, i0, hm, ib, hc, hs => by
    have e1 := h.2.2.2 (-1)
    have ih := w_law i2 i3 hr hq m
    have hk : ∀ u' A' c' s', i + 6 ≤ hI u0 0 (-1) → Iv u0 u' A' → c ≤ c' + 600 → s ≤ s' + 4200 → wp (wpm 9) cd_L_law Q 1197 [vR 0, vR 8, vR 139, vI i] [] u' c' s' := by
      intro u' A' c' s' i1 h' hc' hs'
      refine run [(18, [])] 60 ?_
      refine z_gq (by omega) ?_
      exact ih (i + 6) u' A' c' s' h' (by omega) (by omega) (by omega) (by omega) (by omega)
    refine run [(172, []), (195, []), (208, []), (221, []), (234, []), (277, []), (320, []), (363, []), (426, []), (479, []), (522, []), (565, []), (598, []), (641, []), (674, []), (697, []), (730, []), (753, []), (776, []), (799, []), (822, []), (846, []), (880, []), (913, []), (956, []), (999, []), (1052, []), (1085, []), (1118, []), (1151, []), (1174, []), (1197, [])] 60 ?_
    refine z_gq (by omega) ?_
    refine z_bq (fun hz => ?_) (fun hz => ?_)
    · exact hq u
    have i1 : i + 6 ≤ hI u0 0 (-1) := by omega
    refine And.intro (by omega) ?_
    refine z_bq (fun _ => lw_write h i0 i1 i2 hr (by omega) (by omega) (fun u' A' c' s' => hk u' A' c' s' i1)) (fun _ => ?_)
    refine z_bq (fun _ => lw_erase h i0 i1 i2 hr (by omega) (by omega) (fun u' A' c' s' => hk u' A' c' s' i1)) (fun _ => ?_)
    refine z_bq (fun _ => lw_fault h i0 i1 i2 hr (by omega) (by omega) (fun u' A' c' s' => hk u' A' c' s' i1)) (fun _ => ?_)
    refine z_bq (fun _ => lw_house h i0 i1 i2 hr (by omega) (by omega) (fun u' A' c' s' => hk u' A' c' s' i1)) (fun _ => ?_)
    refine z_bq (fun _ => lw_sound h i0 i1 i2 hr (by omega) (by omega) (fun u' A' c' s' => hk u' A' c' s' i1)) (fun _ => ?_)
    refine z_bq (fun _ => lw_span h i0 i1 i2 hr (by omega) (by omega) (fun u' A' c' s' => hk u' A' c' s' i1)) (fun _ => ?_)
    refine z_bq (fun _ => lw_tone h i0 i1 i2 hr (by omega) (by omega) (fun u' A' c' s' => hk u' A' c' s' i1)) (fun _ => ?_)
    refine z_bq (fun _ => lw_put h i0 i1 i2 hr (by omega) (by omega) (fun u' A' c' s' => hk u' A' c' s' i1)) (fun _ => ?_)
    refine z_bq (fun _ => lw_fade h i0 i1 i2 hr (by omega) (by omega) (fun u' A' c' s' => hk u' A' c' s' i1)) (fun _ => ?_)
    refine z_bq (fun _ => lw_gain h i0 i1 i2 hr (by omega) (by omega) (fun u' A' c' s' => hk u' A' c' s' i1)) (fun _ => ?_)
    refine z_bq (fun _ => lw_wipe h i0 i1 i2 hr (by omega) (by omega) (fun u' A' c' s' => hk u' A' c' s' i1)) (fun _ => ?_)
    refine z_bq (fun _ => lw_cut h i0 i1 i2 hr (by omega) (by omega) (fun u' A' c' s' => hk u' A' c' s' i1)) (fun _ => ?_)
    refine z_bq (fun _ => lw_move h i0 i1 i2 hr (by omega) (by omega) (fun u' A' c' s' => hk u' A' c' s' i1)) (fun _ => ?_)
    refine z_bq (fun _ => lw_shift h i0 i1 i2 hr (by omega) (by omega) (fun u' A' c' s' => hk u' A' c' s' i1)) (fun _ => ?_)
    refine z_bq (fun _ => lw_shut h i0 i1 i2 hr (by omega) (by omega) (fun u' A' c' s' => hk u' A' c' s' i1)) (fun _ => ?_)
    refine z_bq (fun _ => lw_bounce h i0 i1 i2 hr (by omega) (by omega) (fun u' A' c' s' => hk u' A' c' s' i1)) (fun _ => ?_)
    refine z_bq (fun _ => lw_undo h i0 i1 i2 hr (by omega) (by omega) (fun u' A' c' s' => hk u' A' c' s' i1)) (fun _ => ?_)
    refine z_bq (fun _ => lw_keep h i0 i1 i2 hr (by omega) (by omega) (fun u' A' c' s' => hk u' A' c' s' i1)) (fun _ => ?_)
    refine z_bq (fun _ => lw_back h i0 i1 i2 hr (by omega) (by omega) (fun u' A' c' s' => hk u' A' c' s' i1)) (fun _ => ?_)
    refine z_bq (fun _ => lw_heard h i0 i1 i2 hr (by omega) (by omega) (fun u' A' c' s' => hk u' A' c' s' i1)) (fun _ => ?_)
    refine z_bq (fun _ => lw_exact h i0 i1 i2 hr (by omega) (by omega) (fun u' A' c' s' => hk u' A' c' s' i1)) (fun _ => ?_)
    refine z_bq (fun _ => lw_sum h i0 i1 i2 hr (by omega) (by omega) (fun u' A' c' s' => hk u' A' c' s' i1)) (fun _ => ?_)
    refine z_bq (fun _ => lw_played h i0 i1 i2 hr (by omega) (by omega) (fun u' A' c' s' => hk u' A' c' s' i1)) (fun _ => ?_)
    refine z_bq (fun _ => lw_covers h i0 i1 i2 hr (by omega) (by omega) (fun u' A' c' s' => hk u' A' c' s' i1)) (fun _ => ?_)
    refine z_bq (fun _ => lw_rack h i0 i1 i2 hr (by omega) (by omega) (fun u' A' c' s' => hk u' A' c' s' i1)) (fun _ => ?_)
    refine z_bq (fun _ => lw_hang h i0 i1 i2 hr (by omega) (by omega) (fun u' A' c' s' => hk u' A' c' s' i1)) (fun _ => ?_)
    refine z_bq (fun _ => lw_take h i0 i1 i2 hr (by omega) (by omega) (fun u' A' c' s' => hk u' A' c' s' i1)) (fun _ => ?_)
    refine z_bq (fun _ => lw_like h i0 i1 i2 hr (by omega) (by omega) (fun u' A' c' s' => hk u' A' c' s' i1)) (fun _ => ?_)
    refine z_bq (fun _ => lw_pass h i0 i1 i2 hr (by omega) (by omega) (fun u' A' c' s' => hk u' A' c' s' i1)) (fun _ => ?_)
    refine z_bq (fun _ => lw_drop h i0 i1 i2 hr (by omega) (by omega) (fun u' A' c' s' => hk u' A' c' s' i1)) (fun _ => ?_)
    refine z_bq (fun _ => lw_count h i0 i1 i2 hr (by omega) (by omega) (fun u' A' c' s' => hk u' A' c' s' i1)) (fun _ => ?_)
    exact hk u A c s i1 h (by omega) (by omega)
