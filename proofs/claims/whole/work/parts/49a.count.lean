/-! count: equal numbers, equal answers -/
theorem p_count {hh_today sh_size fl_sentInAll ru_texts ru_lines cr_size ca_size mm_thrown mm_today mm_texts mm_lines mm_workers mm_calls mm_allSent mm_hours x1 : Int32} {P : Int32 → Prop} (h0 : hh_today = mm_today) (h1 : cr_size = mm_workers) (h2 : ca_size = mm_calls) (h3 : ru_texts = mm_texts) (h4 : fl_sentInAll = mm_allSent) (h5 : sh_size = mm_hours) (h6 : ru_lines = mm_lines) (hP : P 0) :
    wp_X7_count hh_today sh_size fl_sentInAll ru_texts ru_lines cr_size ca_size x1 (fun r => wp_X8_count mm_thrown mm_today mm_texts mm_lines mm_workers mm_calls mm_allSent mm_hours x1 (fun q t => r = q ∧ P t)) := by
  subst h0 h1 h2 h3 h4 h5 h6
  unfold wp_X7_count wp_X8_count
  by_cases a0 : x1 = 0
  · simp [a0, hP]
  by_cases a1 : x1 = 1
  · simp [a1, hP]
  by_cases a2 : x1 = 2
  · simp [a2, hP]
  by_cases a3 : x1 = 3
  · simp [a3, hP]
  by_cases a4 : x1 = 4
  · simp [a4, hP]
  by_cases a5 : x1 = 5
  · simp [a5, hP]
  by_cases a6 : x1 = 6
  · simp [a6, hP]
  simp [a0, a1, a2, a3, a4, a5, a6, hP]
