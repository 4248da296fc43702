set_option maxHeartbeats 1000000 in
theorem ct_take {l : Launch} {G : zG} {o : Nat} (ho : o < 49) {μ : zM} {b : zB} {x1 x2 x3 : Int32} (h1 : vp_in x1 10) (h2 : vp_in x2 6) (h3 : vp_in x3 6) :
    zCT l G 0 yX1_take cX1_take 5 (some .boolean) [.ref (G.ad 1 o), .int x1, .int x2, .int x3] (putB μ o b) (zI fun r μ' => r = tkR b (ix x1) (ix x2) ∧ μ' = putB μ o (tkB b (ix x1) (ix x2) (ix x3))) := by
  refine zCT_of (by decide) (Nat.le_of_ble_eq_true rfl) rfl (fun X hl hG hX hr => ?_)
  subst hG
  refine st_X1_take_0 hX hr ho ?_
  simp only [forall_eq, pB1, pB2, pB5, pBI1, pBI2, pBI5]
  refine ⟨h1, h2, fun c => ⟨fun c5 => ⟨h3, ?_⟩, fun c5 => ?_⟩, fun c => ⟨fun c5 => ⟨h3, ?_⟩, fun c5 => ?_⟩⟩
  · have hc : tkC b (ix x1) (ix x2) = b 1 (ix x2) := by rw [tkC, if_pos c]
    exact ⟨1, rfl, by rw [tkR, hc, if_pos c5], by rw [tkB, hc, if_pos c5]; rfl⟩
  · have hc : tkC b (ix x1) (ix x2) = b 1 (ix x2) := by rw [tkC, if_pos c]
    exact ⟨0, rfl, by rw [tkR, hc, if_neg c5], by rw [tkB, hc, if_neg c5]⟩
  · have hc : tkC b (ix x1) (ix x2) = b 2 (ix x1) := by rw [tkC, if_neg c]
    exact ⟨1, rfl, by rw [tkR, hc, if_pos c5], by rw [tkB, hc, if_pos c5]; rfl⟩
  · have hc : tkC b (ix x1) (ix x2) = b 2 (ix x1) := by rw [tkC, if_neg c]
    exact ⟨0, rfl, by rw [tkR, hc, if_neg c5], by rw [tkB, hc, if_neg c5]⟩
