theorem laK_0 : u_lay RK TK 0 ∈ gtb := gtb_in (i := 209) (by decide +kernel) (by decide +kernel)
theorem laK_1 : u_lay RK TK 1 ∈ gtb := gtb_in (i := 211) (by decide +kernel) (by decide +kernel)
theorem laK_2 : u_lay RK TK 2 ∈ gtb := gtb_in (i := 213) (by decide +kernel) (by decide +kernel)
theorem laK_3 : u_lay RK TK 3 ∈ gtb := gtb_in (i := 215) (by decide +kernel) (by decide +kernel)
theorem laK_4 : u_lay RK TK 4 ∈ gtb := gtb_in (i := 217) (by decide +kernel) (by decide +kernel)
theorem laK_5 : u_lay RK TK 5 ∈ gtb := gtb_in (i := 219) (by decide +kernel) (by decide +kernel)
theorem laK_6 : u_lay RK TK 6 ∈ gtb := gtb_in (i := 221) (by decide +kernel) (by decide +kernel)
theorem laK_7 : u_lay RK TK 7 ∈ gtb := gtb_in (i := 223) (by decide +kernel) (by decide +kernel)
theorem laK_8 : u_lay RK TK 8 ∈ gtb := gtb_in (i := 225) (by decide +kernel) (by decide +kernel)
theorem laK_9 : u_lay RK TK 9 ∈ gtb := gtb_in (i := 227) (by decide +kernel) (by decide +kernel)
theorem inK : ∀ w ∈ uK, w ∈ gtb := by
  intro w h
  obtain ⟨k, hk, rfl⟩ := List.mem_map.mp h
  have hk := List.mem_range.mp hk
  match k, hk with
  | 0, _ => exact laK_0
  | 1, _ => exact laK_1
  | 2, _ => exact laK_2
  | 3, _ => exact laK_3
  | 4, _ => exact laK_4
  | 5, _ => exact laK_5
  | 6, _ => exact laK_6
  | 7, _ => exact laK_7
  | 8, _ => exact laK_8
  | 9, _ => exact laK_9
theorem laL_0 : u_lay RL TL 0 ∈ gtb := gtb_in (i := 152) (by decide +kernel) (by decide +kernel)
theorem laL_1 : u_lay RL TL 1 ∈ gtb := gtb_in (i := 154) (by decide +kernel) (by decide +kernel)
theorem laL_2 : u_lay RL TL 2 ∈ gtb := gtb_in (i := 156) (by decide +kernel) (by decide +kernel)
theorem laL_3 : u_lay RL TL 3 ∈ gtb := gtb_in (i := 158) (by decide +kernel) (by decide +kernel)
theorem laL_4 : u_lay RL TL 4 ∈ gtb := gtb_in (i := 160) (by decide +kernel) (by decide +kernel)
theorem laL_5 : u_lay RL TL 5 ∈ gtb := gtb_in (i := 162) (by decide +kernel) (by decide +kernel)
theorem laL_6 : u_lay RL TL 6 ∈ gtb := gtb_in (i := 164) (by decide +kernel) (by decide +kernel)
theorem inL : ∀ w ∈ uL, w ∈ gtb := by
  intro w h
  obtain ⟨k, hk, rfl⟩ := List.mem_map.mp h
  have hk := List.mem_range.mp hk
  match k, hk with
  | 0, _ => exact laL_0
  | 1, _ => exact laL_1
  | 2, _ => exact laL_2
  | 3, _ => exact laL_3
  | 4, _ => exact laL_4
  | 5, _ => exact laL_5
  | 6, _ => exact laL_6
theorem laX_0 : u_lay RX TX 0 ∈ gtb := gtb_in (i := 191) (by decide +kernel) (by decide +kernel)
theorem laX_1 : u_lay RX TX 1 ∈ gtb := gtb_in (i := 193) (by decide +kernel) (by decide +kernel)
theorem laX_2 : u_lay RX TX 2 ∈ gtb := gtb_in (i := 195) (by decide +kernel) (by decide +kernel)
theorem inX : ∀ w ∈ uX, w ∈ gtb := by
  intro w h
  obtain ⟨k, hk, rfl⟩ := List.mem_map.mp h
  have hk := List.mem_range.mp hk
  match k, hk with
  | 0, _ => exact laX_0
  | 1, _ => exact laX_1
  | 2, _ => exact laX_2
theorem laE_0 : u_lay RE TE 0 ∈ gtb := gtb_in (i := 233) (by decide +kernel) (by decide +kernel)
theorem laE_1 : u_lay RE TE 1 ∈ gtb := gtb_in (i := 235) (by decide +kernel) (by decide +kernel)
theorem laE_2 : u_lay RE TE 2 ∈ gtb := gtb_in (i := 237) (by decide +kernel) (by decide +kernel)
theorem inE : ∀ w ∈ uE, w ∈ gtb := by
  intro w h
  obtain ⟨k, hk, rfl⟩ := List.mem_map.mp h
  have hk := List.mem_range.mp hk
  match k, hk with
  | 0, _ => exact laE_0
  | 1, _ => exact laE_1
  | 2, _ => exact laE_2
theorem laT_0 : u_lay RT TT 0 ∈ gtb := gtb_in (i := 105) (by decide +kernel) (by decide +kernel)
theorem laT_1 : u_lay RT TT 1 ∈ gtb := gtb_in (i := 107) (by decide +kernel) (by decide +kernel)
theorem laT_2 : u_lay RT TT 2 ∈ gtb := gtb_in (i := 109) (by decide +kernel) (by decide +kernel)
theorem laT_3 : u_lay RT TT 3 ∈ gtb := gtb_in (i := 111) (by decide +kernel) (by decide +kernel)
theorem laT_4 : u_lay RT TT 4 ∈ gtb := gtb_in (i := 113) (by decide +kernel) (by decide +kernel)
theorem laT_5 : u_lay RT TT 5 ∈ gtb := gtb_in (i := 115) (by decide +kernel) (by decide +kernel)
theorem laT_6 : u_lay RT TT 6 ∈ gtb := gtb_in (i := 117) (by decide +kernel) (by decide +kernel)
theorem laT_7 : u_lay RT TT 7 ∈ gtb := gtb_in (i := 119) (by decide +kernel) (by decide +kernel)
theorem laT_8 : u_lay RT TT 8 ∈ gtb := gtb_in (i := 121) (by decide +kernel) (by decide +kernel)
theorem inT : ∀ w ∈ uT, w ∈ gtb := by
  intro w h
  obtain ⟨k, hk, rfl⟩ := List.mem_map.mp h
  have hk := List.mem_range.mp hk
  match k, hk with
  | 0, _ => exact laT_0
  | 1, _ => exact laT_1
  | 2, _ => exact laT_2
  | 3, _ => exact laT_3
  | 4, _ => exact laT_4
  | 5, _ => exact laT_5
  | 6, _ => exact laT_6
  | 7, _ => exact laT_7
  | 8, _ => exact laT_8
theorem laF_0 : u_lay RF TF 0 ∈ gtb := gtb_in (i := 254) (by decide +kernel) (by decide +kernel)
theorem laF_1 : u_lay RF TF 1 ∈ gtb := gtb_in (i := 256) (by decide +kernel) (by decide +kernel)
theorem laF_2 : u_lay RF TF 2 ∈ gtb := gtb_in (i := 258) (by decide +kernel) (by decide +kernel)
theorem laF_3 : u_lay RF TF 3 ∈ gtb := gtb_in (i := 260) (by decide +kernel) (by decide +kernel)
theorem laF_4 : u_lay RF TF 4 ∈ gtb := gtb_in (i := 262) (by decide +kernel) (by decide +kernel)
theorem laF_5 : u_lay RF TF 5 ∈ gtb := gtb_in (i := 264) (by decide +kernel) (by decide +kernel)
theorem laF_6 : u_lay RF TF 6 ∈ gtb := gtb_in (i := 266) (by decide +kernel) (by decide +kernel)
theorem laF_7 : u_lay RF TF 7 ∈ gtb := gtb_in (i := 268) (by decide +kernel) (by decide +kernel)
theorem laF_8 : u_lay RF TF 8 ∈ gtb := gtb_in (i := 270) (by decide +kernel) (by decide +kernel)
theorem laF_9 : u_lay RF TF 9 ∈ gtb := gtb_in (i := 272) (by decide +kernel) (by decide +kernel)
theorem laF_10 : u_lay RF TF 10 ∈ gtb := gtb_in (i := 274) (by decide +kernel) (by decide +kernel)
theorem laF_11 : u_lay RF TF 11 ∈ gtb := gtb_in (i := 276) (by decide +kernel) (by decide +kernel)
theorem inF : ∀ w ∈ uF, w ∈ gtb := by
  intro w h
  obtain ⟨k, hk, rfl⟩ := List.mem_map.mp h
  have hk := List.mem_range.mp hk
  match k, hk with
  | 0, _ => exact laF_0
  | 1, _ => exact laF_1
  | 2, _ => exact laF_2
  | 3, _ => exact laF_3
  | 4, _ => exact laF_4
  | 5, _ => exact laF_5
  | 6, _ => exact laF_6
  | 7, _ => exact laF_7
  | 8, _ => exact laF_8
  | 9, _ => exact laF_9
  | 10, _ => exact laF_10
  | 11, _ => exact laF_11
theorem laR_0 : u_lay RR TR 0 ∈ gtb := gtb_in (i := 566) (by decide +kernel) (by decide +kernel)
theorem laR_1 : u_lay RR TR 1 ∈ gtb := gtb_in (i := 568) (by decide +kernel) (by decide +kernel)
theorem laR_2 : u_lay RR TR 2 ∈ gtb := gtb_in (i := 570) (by decide +kernel) (by decide +kernel)
theorem laR_3 : u_lay RR TR 3 ∈ gtb := gtb_in (i := 572) (by decide +kernel) (by decide +kernel)
theorem laR_4 : u_lay RR TR 4 ∈ gtb := gtb_in (i := 574) (by decide +kernel) (by decide +kernel)
theorem laR_5 : u_lay RR TR 5 ∈ gtb := gtb_in (i := 576) (by decide +kernel) (by decide +kernel)
theorem laR_6 : u_lay RR TR 6 ∈ gtb := gtb_in (i := 578) (by decide +kernel) (by decide +kernel)
theorem laR_7 : u_lay RR TR 7 ∈ gtb := gtb_in (i := 580) (by decide +kernel) (by decide +kernel)
theorem laR_8 : u_lay RR TR 8 ∈ gtb := gtb_in (i := 582) (by decide +kernel) (by decide +kernel)
theorem laR_9 : u_lay RR TR 9 ∈ gtb := gtb_in (i := 584) (by decide +kernel) (by decide +kernel)
theorem laR_10 : u_lay RR TR 10 ∈ gtb := gtb_in (i := 586) (by decide +kernel) (by decide +kernel)
theorem laR_11 : u_lay RR TR 11 ∈ gtb := gtb_in (i := 588) (by decide +kernel) (by decide +kernel)
theorem laR_12 : u_lay RR TR 12 ∈ gtb := gtb_in (i := 590) (by decide +kernel) (by decide +kernel)
theorem laR_13 : u_lay RR TR 13 ∈ gtb := gtb_in (i := 592) (by decide +kernel) (by decide +kernel)
theorem laR_14 : u_lay RR TR 14 ∈ gtb := gtb_in (i := 594) (by decide +kernel) (by decide +kernel)
theorem laR_15 : u_lay RR TR 15 ∈ gtb := gtb_in (i := 596) (by decide +kernel) (by decide +kernel)
theorem laR_16 : u_lay RR TR 16 ∈ gtb := gtb_in (i := 598) (by decide +kernel) (by decide +kernel)
theorem laR_17 : u_lay RR TR 17 ∈ gtb := gtb_in (i := 600) (by decide +kernel) (by decide +kernel)
theorem laR_18 : u_lay RR TR 18 ∈ gtb := gtb_in (i := 602) (by decide +kernel) (by decide +kernel)
theorem laR_19 : u_lay RR TR 19 ∈ gtb := gtb_in (i := 604) (by decide +kernel) (by decide +kernel)
theorem laR_20 : u_lay RR TR 20 ∈ gtb := gtb_in (i := 606) (by decide +kernel) (by decide +kernel)
theorem laR_21 : u_lay RR TR 21 ∈ gtb := gtb_in (i := 608) (by decide +kernel) (by decide +kernel)
theorem laR_22 : u_lay RR TR 22 ∈ gtb := gtb_in (i := 610) (by decide +kernel) (by decide +kernel)
theorem laR_23 : u_lay RR TR 23 ∈ gtb := gtb_in (i := 612) (by decide +kernel) (by decide +kernel)
theorem laR_24 : u_lay RR TR 24 ∈ gtb := gtb_in (i := 614) (by decide +kernel) (by decide +kernel)
theorem laR_25 : u_lay RR TR 25 ∈ gtb := gtb_in (i := 616) (by decide +kernel) (by decide +kernel)
theorem laR_26 : u_lay RR TR 26 ∈ gtb := gtb_in (i := 618) (by decide +kernel) (by decide +kernel)
theorem laR_27 : u_lay RR TR 27 ∈ gtb := gtb_in (i := 620) (by decide +kernel) (by decide +kernel)
theorem laR_28 : u_lay RR TR 28 ∈ gtb := gtb_in (i := 622) (by decide +kernel) (by decide +kernel)
theorem laR_29 : u_lay RR TR 29 ∈ gtb := gtb_in (i := 624) (by decide +kernel) (by decide +kernel)
theorem laR_30 : u_lay RR TR 30 ∈ gtb := gtb_in (i := 626) (by decide +kernel) (by decide +kernel)
theorem inR : ∀ w ∈ uR, w ∈ gtb := by
  intro w h
  obtain ⟨k, hk, rfl⟩ := List.mem_map.mp h
  have hk := List.mem_range.mp hk
  match k, hk with
  | 0, _ => exact laR_0
  | 1, _ => exact laR_1
  | 2, _ => exact laR_2
  | 3, _ => exact laR_3
  | 4, _ => exact laR_4
  | 5, _ => exact laR_5
  | 6, _ => exact laR_6
  | 7, _ => exact laR_7
  | 8, _ => exact laR_8
  | 9, _ => exact laR_9
  | 10, _ => exact laR_10
  | 11, _ => exact laR_11
  | 12, _ => exact laR_12
  | 13, _ => exact laR_13
  | 14, _ => exact laR_14
  | 15, _ => exact laR_15
  | 16, _ => exact laR_16
  | 17, _ => exact laR_17
  | 18, _ => exact laR_18
  | 19, _ => exact laR_19
  | 20, _ => exact laR_20
  | 21, _ => exact laR_21
  | 22, _ => exact laR_22
  | 23, _ => exact laR_23
  | 24, _ => exact laR_24
  | 25, _ => exact laR_25
  | 26, _ => exact laR_26
  | 27, _ => exact laR_27
  | 28, _ => exact laR_28
  | 29, _ => exact laR_29
  | 30, _ => exact laR_30
  | k + 31, h => exact absurd h (by omega)
