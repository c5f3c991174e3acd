theorem ax_pd286 : (List.range 1082).all (ax_chI ax_m286) = true := by
  refine List.all_eq_true.mpr fun pc hpc => ?_
  have hpc := List.mem_range.mp hpc
  by_cases h0 : pc < 24
  · have h1 := List.all_eq_true.mp ax_pd286_0 (pc - 0) (List.mem_range.mpr (by omega))
    rwa [show pc - 0 + 0 = pc by omega] at h1
  by_cases h24 : pc < 48
  · have h1 := List.all_eq_true.mp ax_pd286_24 (pc - 24) (List.mem_range.mpr (by omega))
    rwa [show pc - 24 + 24 = pc by omega] at h1
  by_cases h48 : pc < 72
  · have h1 := List.all_eq_true.mp ax_pd286_48 (pc - 48) (List.mem_range.mpr (by omega))
    rwa [show pc - 48 + 48 = pc by omega] at h1
  by_cases h72 : pc < 96
  · have h1 := List.all_eq_true.mp ax_pd286_72 (pc - 72) (List.mem_range.mpr (by omega))
    rwa [show pc - 72 + 72 = pc by omega] at h1
  by_cases h96 : pc < 120
  · have h1 := List.all_eq_true.mp ax_pd286_96 (pc - 96) (List.mem_range.mpr (by omega))
    rwa [show pc - 96 + 96 = pc by omega] at h1
  by_cases h120 : pc < 144
  · have h1 := List.all_eq_true.mp ax_pd286_120 (pc - 120) (List.mem_range.mpr (by omega))
    rwa [show pc - 120 + 120 = pc by omega] at h1
  by_cases h144 : pc < 168
  · have h1 := List.all_eq_true.mp ax_pd286_144 (pc - 144) (List.mem_range.mpr (by omega))
    rwa [show pc - 144 + 144 = pc by omega] at h1
  by_cases h168 : pc < 192
  · have h1 := List.all_eq_true.mp ax_pd286_168 (pc - 168) (List.mem_range.mpr (by omega))
    rwa [show pc - 168 + 168 = pc by omega] at h1
  by_cases h192 : pc < 216
  · have h1 := List.all_eq_true.mp ax_pd286_192 (pc - 192) (List.mem_range.mpr (by omega))
    rwa [show pc - 192 + 192 = pc by omega] at h1
  by_cases h216 : pc < 240
  · have h1 := List.all_eq_true.mp ax_pd286_216 (pc - 216) (List.mem_range.mpr (by omega))
    rwa [show pc - 216 + 216 = pc by omega] at h1
  by_cases h240 : pc < 264
  · have h1 := List.all_eq_true.mp ax_pd286_240 (pc - 240) (List.mem_range.mpr (by omega))
    rwa [show pc - 240 + 240 = pc by omega] at h1
  by_cases h264 : pc < 288
  · have h1 := List.all_eq_true.mp ax_pd286_264 (pc - 264) (List.mem_range.mpr (by omega))
    rwa [show pc - 264 + 264 = pc by omega] at h1
  by_cases h288 : pc < 312
  · have h1 := List.all_eq_true.mp ax_pd286_288 (pc - 288) (List.mem_range.mpr (by omega))
    rwa [show pc - 288 + 288 = pc by omega] at h1
  by_cases h312 : pc < 336
  · have h1 := List.all_eq_true.mp ax_pd286_312 (pc - 312) (List.mem_range.mpr (by omega))
    rwa [show pc - 312 + 312 = pc by omega] at h1
  by_cases h336 : pc < 360
  · have h1 := List.all_eq_true.mp ax_pd286_336 (pc - 336) (List.mem_range.mpr (by omega))
    rwa [show pc - 336 + 336 = pc by omega] at h1
  by_cases h360 : pc < 384
  · have h1 := List.all_eq_true.mp ax_pd286_360 (pc - 360) (List.mem_range.mpr (by omega))
    rwa [show pc - 360 + 360 = pc by omega] at h1
  by_cases h384 : pc < 408
  · have h1 := List.all_eq_true.mp ax_pd286_384 (pc - 384) (List.mem_range.mpr (by omega))
    rwa [show pc - 384 + 384 = pc by omega] at h1
  by_cases h408 : pc < 432
  · have h1 := List.all_eq_true.mp ax_pd286_408 (pc - 408) (List.mem_range.mpr (by omega))
    rwa [show pc - 408 + 408 = pc by omega] at h1
  by_cases h432 : pc < 456
  · have h1 := List.all_eq_true.mp ax_pd286_432 (pc - 432) (List.mem_range.mpr (by omega))
    rwa [show pc - 432 + 432 = pc by omega] at h1
  by_cases h456 : pc < 480
  · have h1 := List.all_eq_true.mp ax_pd286_456 (pc - 456) (List.mem_range.mpr (by omega))
    rwa [show pc - 456 + 456 = pc by omega] at h1
  by_cases h480 : pc < 504
  · have h1 := List.all_eq_true.mp ax_pd286_480 (pc - 480) (List.mem_range.mpr (by omega))
    rwa [show pc - 480 + 480 = pc by omega] at h1
  by_cases h504 : pc < 528
  · have h1 := List.all_eq_true.mp ax_pd286_504 (pc - 504) (List.mem_range.mpr (by omega))
    rwa [show pc - 504 + 504 = pc by omega] at h1
  by_cases h528 : pc < 552
  · have h1 := List.all_eq_true.mp ax_pd286_528 (pc - 528) (List.mem_range.mpr (by omega))
    rwa [show pc - 528 + 528 = pc by omega] at h1
  by_cases h552 : pc < 576
  · have h1 := List.all_eq_true.mp ax_pd286_552 (pc - 552) (List.mem_range.mpr (by omega))
    rwa [show pc - 552 + 552 = pc by omega] at h1
  by_cases h576 : pc < 600
  · have h1 := List.all_eq_true.mp ax_pd286_576 (pc - 576) (List.mem_range.mpr (by omega))
    rwa [show pc - 576 + 576 = pc by omega] at h1
  by_cases h600 : pc < 624
  · have h1 := List.all_eq_true.mp ax_pd286_600 (pc - 600) (List.mem_range.mpr (by omega))
    rwa [show pc - 600 + 600 = pc by omega] at h1
  by_cases h624 : pc < 648
  · have h1 := List.all_eq_true.mp ax_pd286_624 (pc - 624) (List.mem_range.mpr (by omega))
    rwa [show pc - 624 + 624 = pc by omega] at h1
  by_cases h648 : pc < 672
  · have h1 := List.all_eq_true.mp ax_pd286_648 (pc - 648) (List.mem_range.mpr (by omega))
    rwa [show pc - 648 + 648 = pc by omega] at h1
  by_cases h672 : pc < 696
  · have h1 := List.all_eq_true.mp ax_pd286_672 (pc - 672) (List.mem_range.mpr (by omega))
    rwa [show pc - 672 + 672 = pc by omega] at h1
  by_cases h696 : pc < 720
  · have h1 := List.all_eq_true.mp ax_pd286_696 (pc - 696) (List.mem_range.mpr (by omega))
    rwa [show pc - 696 + 696 = pc by omega] at h1
  by_cases h720 : pc < 744
  · have h1 := List.all_eq_true.mp ax_pd286_720 (pc - 720) (List.mem_range.mpr (by omega))
    rwa [show pc - 720 + 720 = pc by omega] at h1
  by_cases h744 : pc < 768
  · have h1 := List.all_eq_true.mp ax_pd286_744 (pc - 744) (List.mem_range.mpr (by omega))
    rwa [show pc - 744 + 744 = pc by omega] at h1
  by_cases h768 : pc < 792
  · have h1 := List.all_eq_true.mp ax_pd286_768 (pc - 768) (List.mem_range.mpr (by omega))
    rwa [show pc - 768 + 768 = pc by omega] at h1
  by_cases h792 : pc < 816
  · have h1 := List.all_eq_true.mp ax_pd286_792 (pc - 792) (List.mem_range.mpr (by omega))
    rwa [show pc - 792 + 792 = pc by omega] at h1
  by_cases h816 : pc < 840
  · have h1 := List.all_eq_true.mp ax_pd286_816 (pc - 816) (List.mem_range.mpr (by omega))
    rwa [show pc - 816 + 816 = pc by omega] at h1
  by_cases h840 : pc < 864
  · have h1 := List.all_eq_true.mp ax_pd286_840 (pc - 840) (List.mem_range.mpr (by omega))
    rwa [show pc - 840 + 840 = pc by omega] at h1
  by_cases h864 : pc < 888
  · have h1 := List.all_eq_true.mp ax_pd286_864 (pc - 864) (List.mem_range.mpr (by omega))
    rwa [show pc - 864 + 864 = pc by omega] at h1
  by_cases h888 : pc < 912
  · have h1 := List.all_eq_true.mp ax_pd286_888 (pc - 888) (List.mem_range.mpr (by omega))
    rwa [show pc - 888 + 888 = pc by omega] at h1
  by_cases h912 : pc < 936
  · have h1 := List.all_eq_true.mp ax_pd286_912 (pc - 912) (List.mem_range.mpr (by omega))
    rwa [show pc - 912 + 912 = pc by omega] at h1
  by_cases h936 : pc < 960
  · have h1 := List.all_eq_true.mp ax_pd286_936 (pc - 936) (List.mem_range.mpr (by omega))
    rwa [show pc - 936 + 936 = pc by omega] at h1
  by_cases h960 : pc < 984
  · have h1 := List.all_eq_true.mp ax_pd286_960 (pc - 960) (List.mem_range.mpr (by omega))
    rwa [show pc - 960 + 960 = pc by omega] at h1
  by_cases h984 : pc < 1008
  · have h1 := List.all_eq_true.mp ax_pd286_984 (pc - 984) (List.mem_range.mpr (by omega))
    rwa [show pc - 984 + 984 = pc by omega] at h1
  by_cases h1008 : pc < 1032
  · have h1 := List.all_eq_true.mp ax_pd286_1008 (pc - 1008) (List.mem_range.mpr (by omega))
    rwa [show pc - 1008 + 1008 = pc by omega] at h1
  by_cases h1032 : pc < 1056
  · have h1 := List.all_eq_true.mp ax_pd286_1032 (pc - 1032) (List.mem_range.mpr (by omega))
    rwa [show pc - 1032 + 1032 = pc by omega] at h1
  by_cases h1056 : pc < 1080
  · have h1 := List.all_eq_true.mp ax_pd286_1056 (pc - 1056) (List.mem_range.mpr (by omega))
    rwa [show pc - 1056 + 1056 = pc by omega] at h1
  by_cases h1080 : pc < 1082
  · have h1 := List.all_eq_true.mp ax_pd286_1080 (pc - 1080) (List.mem_range.mpr (by omega))
    rwa [show pc - 1080 + 1080 = pc by omega] at h1
  exact absurd hpc (by omega)
theorem ax_pq286 : plainName ax_m286.1.cls = true ∧ ax_m286.1.cls = ax_on ax_m286.2.2.2.2.1 := by decide +kernel
theorem ax_pn286 : ax_PM ax_m286 := by
  refine ax_chM_ok (n := 1082) ?_ (fun pc h => by show (bif Nat.blt pc 1082 then _ else none) = none; rw [h]; rfl)
  unfold ax_chM
  rw [ax_pd286, ax_pq286.1]
  simp only [Bool.true_and, decide_eq_true_eq]
  exact ax_pq286.2
