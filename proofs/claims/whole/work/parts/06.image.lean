theorem dX7_image_0 : decode cX7_image 0 = .ok (.iload_n 1, 1) := by decide +kernel
theorem dX7_image_1 : decode cX7_image 1 = .ok (.ifCond .ne 10, 3) := by decide +kernel
theorem dX7_image_4 : decode cX7_image 4 = .ok (.aload_n 0, 1) := by decide +kernel
theorem dX7_image_5 : decode cX7_image 5 = .ok (.getfield 41, 3) := by decide +kernel
theorem dX7_image_8 : decode cX7_image 8 = .ok (.goto 7, 3) := by decide +kernel
theorem dX7_image_11 : decode cX7_image 11 = .ok (.aload_n 0, 1) := by decide +kernel
theorem dX7_image_12 : decode cX7_image 12 = .ok (.getfield 44, 3) := by decide +kernel
theorem dX7_image_15 : decode cX7_image 15 = .ok (.areturn, 1) := by decide +kernel
theorem ct_Nt_image0 {l : Launch} {g : GG} {σ : Sd} (hg : OKg g σ) (hb : σ.2.1 = true) (hi : ∀ c ∈ [0], c ∈ σ.1) (w : Wd) {a1 : Int32} (hc : a1 = (0 : Int32)) : CT l g σ yX7_image cX7_image 2 (some (.object "NoonTrains$Scene")) 0 0 [.ref (gA g 0), .int a1] w (some (.ref (gA g 17))) w := by
  refine ct_of (rt := fun _ : Unit => (some (.ref (gA g 17)), w)) (res := some ()) (q := ()) (own := RX7) (b := true) (nd := [0]) hg hb hi (by decide) rfl (Nat.le_of_ble_eq_true rfl) rfl (fun K e1 e2 e3 F => ?_)
  subst e1 e2 e3
  show N K _ _ w 0 [(0, .ref (gA (cg K) 0)), (1, .int a1)] []
  refine n_iload_n F dX7_image_0 rfl 1 rfl ?_
  refine n_if_ne F 11 dX7_image_1 (by decide) (fun h => ?_) (fun h => ?_)
  · exact absurd hc h
  · refine n_aload_n F dX7_image_4 rfl 0 rfl ?_
    refine n_get F ck_7 lf_RX7_41 (by decide) fg_0_4 (by decide) dX7_image_5 ?_
    refine n_goto F 15 dX7_image_8 (by decide) ?_
    exact n_aret F rfl rfl dX7_image_15
theorem ct_Nt_image1 {l : Launch} {g : GG} {σ : Sd} (hg : OKg g σ) (hb : σ.2.1 = true) (hi : ∀ c ∈ [0], c ∈ σ.1) (w : Wd) {a1 : Int32} (hc : ¬ a1 = (0 : Int32)) : CT l g σ yX7_image cX7_image 2 (some (.object "NoonTrains$Scene")) 0 0 [.ref (gA g 0), .int a1] w (some (.ref (gA g 21))) w := by
  refine ct_of (rt := fun _ : Unit => (some (.ref (gA g 21)), w)) (res := some ()) (q := ()) (own := RX7) (b := true) (nd := [0]) hg hb hi (by decide) rfl (Nat.le_of_ble_eq_true rfl) rfl (fun K e1 e2 e3 F => ?_)
  subst e1 e2 e3
  show N K _ _ w 0 [(0, .ref (gA (cg K) 0)), (1, .int a1)] []
  refine n_iload_n F dX7_image_0 rfl 1 rfl ?_
  refine n_if_ne F 11 dX7_image_1 (by decide) (fun h => ?_) (fun h => ?_)
  · refine n_aload_n F dX7_image_11 rfl 0 rfl ?_
    refine n_get F ck_7 lf_RX7_44 (by decide) fg_0_5 (by decide) dX7_image_12 ?_
    exact n_aret F rfl rfl dX7_image_15
  · exact absurd h hc
