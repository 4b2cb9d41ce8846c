-- the class plays a world, and works them all out
theorem two (m : Nat) (h : m ≤ 5) : 2 ^ m ≤ 32 := by
  have := Nat.pow_le_pow_right (n := 2) (by decide) h
  omega
theorem bt_w {m w : Nat} (h : m ≤ 5) (hw : w < 2 ^ m) : w < 32 := by have := two m h; omega
section PLAY
variable {A : Cf} {F : Rl} {n m w : Nat}
theorem C_begin (hA : OK A n m) (hw : w < 32) {v : Vv} (hC : CA A n m v) {Q : Vv → Prop} (hQ : ∀ v', FX (AWr w) v v' → RW w n (gone A F n w 0).1 v' → Q v') : m_W_begin (nI w) v Q := by
  obtain ⟨h6, h5, -, -⟩ := id hA
  refine s_W_begin ?_
  have key : ∀ j i : Nat, i + j = n → ∀ u, FX (AWr w) v u → RW w i (gone A F n w 0).1 u → k_W_begin_2 (nI w) (nI i) u Q := by
    intro j
    induction j with
    | zero =>
      intro i e u f hR
      obtain rfl : i = n := e
      refine s_W_begin_2 ?_
      rw [(hC.az hA hw f).1, if_neg (nI_nlt (Nat.le_refl _) (by omega))]
      exact hQ u f hR
    | succ j ih =>
      intro i e u f hR
      obtain ⟨c1, c2, c3, c4⟩ := hC.az hA hw f
      refine s_W_begin_2 ?_
      rw [c1, if_pos (nI_lt (by omega) (by omega)), ix_nI (by omega), ix_nI (by omega)]
      refine ⟨ib_nI (by omega) (by decide), ib_nI hw (by decide), ?_⟩
      obtain ⟨q0, q1, q2, q3⟩ := c3 i (by omega)
      have e2 : ∀ x, (sI u (3 + w) i x).1 (77 + i) 2 = cse A i := fun x => by rw [sI_cell _ _ _ _ (by omega)]; exact q2
      rw [e2, q1, q2, nI_1]
      refine ih (i + 1) (by omega) _ ((f.sI (Or.inr (Or.inl rfl)) _).sI (Or.inr (Or.inr rfl)) _) fun x hx => ?_
      by_cases e3 : x = i
      · subst e3
        rw [sI_same, sI_cell _ _ _ _ (by omega), sI_same]
        exact ⟨rfl, rfl⟩
      · rw [sI_slot _ _ _ _ e3, sI_slot _ _ _ _ e3, sI_slot _ _ _ _ e3, sI_slot _ _ _ _ e3]
        exact hR x (by omega)
  exact key n 0 (by omega) v (FX.rf _ _) fun c hc => absurd hc (Nat.not_lt_zero _)
theorem FX.az {u v : Vv} (f : FX AZ u v) : FX (AWr w) u v := ⟨fun i k z => f.1 i k fun y => z (Or.inl y), f.2⟩
theorem C_row (hA : OK A n m) (hw : w < 32) {d r : Nat} (hd : d < m) (hr : r < 6) (hg : goes A d r) {ah : Int32} {S : Wd} {v0 : Vv} (hC : CA A n m v0) (hT : CT F v0) {Q : Vv → Prop} (hQ : ∀ v', FX (AWr w) v0 v' → RW w n (rowc A F n d ah r n S) v' → k_W_play_122 (nI w) ah (nI d) (nI r) v' Q) : ∀ j c : Nat, c + j = n → ∀ v, FX (AWr w) v0 v → RW w n (rowc A F n d ah r c S) v → k_W_play_44 (nI w) ah (nI d) (nI r) (nI c) v Q := by
  obtain ⟨h6, h5, -, -⟩ := id hA
  intro j
  induction j with
  | zero =>
    intro c e v f hR
    obtain rfl : c = n := e
    refine s_W_play_44 ?_
    rw [(hC.az hA hw f).1, if_neg (nI_nlt (Nat.le_refl _) (by omega))]
    exact hQ v f hR
  | succ j ih =>
    intro c e v f hR
    have hCv := hC.az hA hw f
    obtain ⟨c1, c2, c3, c4⟩ := id hCv
    obtain ⟨q0, q1, q2, q3⟩ := c3 c (by omega)
    refine s_W_play_44 ?_
    rw [c1, if_pos (nI_lt (by omega) (by omega)), ix_nI (by omega), ix_nI (by omega)]
    refine ⟨ib_nI (by omega) (by decide), s_D_goesTo ⟨isDoer_d (by omega), ?_⟩⟩
    rw [(c4 d hd).2.2]
    unfold goes at hg
    rw [if_pos hg, if_pos rfl, q0, q2]
    refine ⟨ib_nI (by omega) (by decide), ?_⟩
    have hskip : ¬ (cro A c = nI r ∧ cse A c = 0) → k_W_play_116 (nI w) ah (nI d) (nI r) (nI c) v Q := fun hn => by
      refine s_W_play_116 ?_
      rw [nI_1]
      refine ih (c + 1) (by omega) v f ?_
      show RW w n (visc A F n d ah r c (rowc A F n d ah r c S)) v
      unfold visc
      rw [if_neg hn]
      exact hR
    by_cases g1 : cro A c = nI r
    · rw [if_pos g1]
      by_cases g2 : cse A c = 0
      · rw [if_pos g2]
        refine W_visit hA hw hd (by omega) hCv (hT.az hw f) hR fun v' f' hR' => s_W_play_116 ?_
        rw [nI_1]
        refine ih (c + 1) (by omega) v' (f.tr f') ?_
        show RW w n (visc A F n d ah r c (rowc A F n d ah r c S)) v'
        unfold visc
        rw [if_pos ⟨g1, g2⟩]
        exact hR'
      · rw [if_neg g2]
        exact hskip fun z => g2 z.2
    · rw [if_neg g1]
      exact hskip fun z => g1 z.1
theorem C_rooms (hA : OK A n m) (hw : w < 32) {d : Nat} (hd : d < m) {ah : Int32} {S : Wd} {v0 : Vv} (hC : CA A n m v0) (hT : CT F v0) {Q : Vv → Prop} (hQ : ∀ v', FX (AWr w) v0 v' → RW w n (roomsc A F n d ah 6 S) v' → k_W_play_131 (nI w) (ah + 1) (nI d) v' Q) : ∀ j r : Nat, r + j = 6 → ∀ v, FX (AWr w) v0 v → RW w n (roomsc A F n d ah r S) v → k_W_play_34 (nI w) ah (nI d) (nI r) v Q := by
  obtain ⟨h6, h5, -, -⟩ := id hA
  intro j
  induction j with
  | zero =>
    intro r e v f hR
    obtain rfl : r = 6 := e
    refine s_W_play_34 ?_
    rw [if_neg (by decide)]
    exact hQ v f hR
  | succ j ih =>
    intro r e v f hR
    refine s_W_play_34 ?_
    rw [if_pos (by rw [show (6 : Int32) = nI 6 from rfl]; exact nI_lt (by omega) (by decide))]
    have hnext : ∀ v', FX (AWr w) v0 v' → RW w n (roomc A F n d ah r (roomsc A F n d ah r S)) v' → k_W_play_122 (nI w) ah (nI d) (nI r) v' Q := fun v' f' hR' => by
      refine s_W_play_122 ?_
      rw [nI_1]
      exact ih (r + 1) (by omega) v' f' hR'
    unfold roomc at hnext
    by_cases hg : goes A d r
    · rw [if_pos hg] at hnext
      exact C_row hA hw hd (by omega) hg hC hT hnext n 0 (by omega) v f hR
    · rw [if_neg hg] at hnext
      have hCv := hC.az hA hw f
      obtain ⟨c1, c2, c3, c4⟩ := id hCv
      refine s_W_play_44 ?_
      rw [c1]
      by_cases h0 : n = 0
      · rw [if_neg (by rw [h0]; decide)]
        exact hnext v f hR
      · rw [if_pos (by rw [show (0 : Int32) = nI 0 from rfl]; exact nI_lt (by omega) (by omega)), ix_nI (by omega)]
        refine ⟨ib_nI (by omega) (by decide), s_D_goesTo ⟨isDoer_d (by omega), ?_⟩⟩
        rw [(c4 d hd).2.2]
        unfold goes at hg
        rw [if_neg hg, if_neg (by decide)]
        exact hnext v f hR
theorem C_play (hA : OK A n m) (hw : w < 32) {v : Vv} (hC : CA A n m v) (hT : CT F v) {Q : Vv → Prop} (hQ : ∀ v', FX (AWr w) v v' → RW w n (gone A F n w m).1 v' → Q v') : m_W_play (nI w) v Q := by
  obtain ⟨h6, h5, -, -⟩ := id hA
  have key : ∀ j d : Nat, d + j = m → ∀ u, FX (AWr w) v u → RW w n (gone A F n w d).1 u → k_W_play_9 (nI w) (nI (gone A F n w d).2) (nI d) u Q := by
    intro j
    induction j with
    | zero =>
      intro d e u f hR
      obtain rfl : d = m := e
      refine s_W_play_9 ?_
      rw [(hC.az hA hw f).2.1, if_neg (nI_nlt (Nat.le_refl _) (by omega))]
      exact hQ u f hR
    | succ j ih =>
      intro d e u f hR
      have hCu := hC.az hA hw f
      refine s_W_play_9 ?_
      rw [hCu.2.1, if_pos (nI_lt (by omega) (by omega)), bt_eq w hw d (by omega)]
      have e0 : gone A F n w (d + 1) = if bt w d = true then (roomsc A F n d (nI (gone A F n w d).2) 6 (gone A F n w d).1, (gone A F n w d).2 + 1) else gone A F n w d := rfl
      have ih := ih (d + 1) (by omega)
      rw [e0] at ih
      by_cases b : bt w d = true
      · rw [if_pos b] at ih ⊢
        rw [if_neg (by decide)]
        refine C_rooms hA hw (by omega) hCu (hT.az hw f) (fun v' f' hR' => s_W_play_131 ?_) 6 0 rfl u (FX.rf _ _) hR
        rw [nI_1, nI_1]
        exact ih v' (f.tr f') hR'
      · rw [if_neg b] at ih ⊢
        rw [if_pos rfl]
        refine s_W_play_131 ?_
        rw [nI_1]
        exact ih u f hR
  refine s_W_play (C_begin (F := F) hA hw hC fun v' f hR => ?_)
  exact key m 0 (by omega) v' f hR
theorem C_right (hA : OK A n m) (hw : w < 32) {v : Vv} (hC : CA A n m v) (hR : RW w n (gone A F n w m).1 v) {Q : Int32 → Vv → Prop} (hQ : Q (rgt A F n m w n) v) : m_W_rightIn (nI w) v Q := by
  obtain ⟨h6, h5, -, -⟩ := id hA
  have key : ∀ j c : Nat, c + j = n → k_W_rightIn_4 (nI w) (rgt A F n m w c) (nI c) v Q := by
    intro j
    induction j with
    | zero =>
      intro c e
      obtain rfl : c = n := e
      refine s_W_rightIn_4 ?_
      rw [hC.1, if_neg (nI_nlt (Nat.le_refl _) (by omega))]
      exact hQ
    | succ j ih =>
      intro c e
      refine s_W_rightIn_4 ?_
      rw [hC.1, if_pos (nI_lt (by omega) (by omega)), ix_nI (by omega), ix_nI (by omega), (hR c (by omega)).1, nI_1]
      exact ⟨ib_nI hw (by decide), ib_nI (by omega) (by decide), ih (c + 1) (by omega)⟩
  exact s_W_rightIn (key n 0 (by omega))
theorem C_chance (hA : OK A n m) (hw : w < 32) {v : Vv} (hC : CA A n m v) (h72 : ∀ d, d < m → v.1 72 d = came A F d) {Q : Int64 → Vv → Prop} (hQ : Q (chc A F w m) v) : m_W_chanceOf (nI w) v Q := by
  obtain ⟨h6, h5, -, -⟩ := id hA
  have key : ∀ j d : Nat, d + j = m → k_W_chanceOf_5 (nI w) (chc A F w d) (nI d) v Q := by
    intro j
    induction j with
    | zero =>
      intro d e
      obtain rfl : d = m := e
      refine s_W_chanceOf_5 ?_
      rw [hC.2.1, if_neg (nI_nlt (Nat.le_refl _) (by omega))]
      exact hQ
    | succ j ih =>
      intro d e
      have ih := ih (d + 1) (by omega)
      refine s_W_chanceOf_5 ?_
      rw [hC.2.1, if_pos (nI_lt (by omega) (by omega)), bt_eq w hw d (by omega), ix_nI (by omega), h72 d (by omega)]
      unfold chc at ih
      by_cases b : bt w d = true
      · rw [if_pos b] at ih ⊢
        rw [if_pos rfl]
        refine ⟨ib_nI (by omega) (by decide), s_W_chanceOf_50 ?_⟩
        rw [nI_1]
        exact ih
      · rw [if_neg b] at ih ⊢
        rw [if_neg (by decide)]
        refine ⟨ib_nI (by omega) (by decide), s_W_chanceOf_50 ?_⟩
        rw [nI_1]
        exact ih
  exact s_W_chanceOf (key m 0 (by omega))
end PLAY
