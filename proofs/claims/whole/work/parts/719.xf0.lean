/-! what a throw needs, at the law's start -/
theorem xb_tbl : ∀ w ∈ XB, w ∈ lw_tbl := by decide +kernel
theorem XF_start {s : State} {b : Nat} (hts : ∀ w ∈ lw_tbl, w.before #[Value.ref b] s = true) (hgv : (Jvm.Cond.and given_1 narrow_1).before #[Value.ref b] s = true) : ∃ sa, XF s.heap.size sa s s.heap := by
  have hs := flat_of_before _ hgv
  obtain ⟨sa, -, -, -, ha, -⟩ := Cond.exactly_spec (hs (.exactly (.string "LifeKeys" 137) "java/lang/String") (by decide +kernel))
  refine ⟨sa, vk_R.of (hts (.stringRef RX11 137 "no such key") (by decide +kernel)) ha, XB_c (fun y hy => va_Nw.of rfl (hts _ (xb_tbl _ hy))) (fun a b hab => va_Nw.of rfl (hts _ (xb_tbl _ hab))), ?_, ?_⟩
  · exact vx_Zqof (hts (.laysStatic Bundle.tN "UNASSIGNED_STACK" Bundle.steD) (by decide +kernel)) (hts (.initialized Bundle.tN) (by decide +kernel)) (hs (.isRef (.static Bundle.tN "UNASSIGNED_STACK" Bundle.steD)) (by decide +kernel)) (fun a h => Nat.not_le.mpr h)
  · exact vx_Zqof (hts (.laysStatic Bundle.tN "SUPPRESSED_SENTINEL" Bundle.listD) (by decide +kernel)) (hts (.initialized Bundle.tN) (by decide +kernel)) (hs (.isRef (.static Bundle.tN "SUPPRESSED_SENTINEL" Bundle.listD)) (by decide +kernel)) (fun a h => Nat.not_le.mpr h)
theorem no_traces {l : Launch} (hflags : l.flags = flags0) : l.stackTraces = false := by
  unfold Launch.stackTraces
  rw [hflags]
  decide +kernel
