/-! All calls together. -/
theorem next_ok {h0 s0 n : Nat} {S : HS} {R : RS} (h : Inv h0 s0 n S R) : Inv h0 s0 (n + 1) S R := by
  obtain ⟨g, hc, hv, hr⟩ := h
  exact ⟨g, hc.next, hv, hr⟩
theorem pure_ok : Pure := fun h0 s0 => ⟨Inv h0 s0, start_ok h0 s0, fun n S R y0 w y1 y2 y3 y4 y5 hn h => ⟨fun _ => call_0 hn y1 h, fun _ => call_1 hn y1 y2 y3 y4 y5 h, fun _ => call_2 hn y1 y2 w h, fun _ => call_3 hn h, fun _ => call_4 hn y1 w h, fun _ => call_5 hn y1 y2 w h, fun _ => call_6 hn y1 y2 y3 y4 y5 w h, fun _ => call_7 hn y1 y2 y3 y4 h, fun _ => call_8 hn y1 y2 y3 y4 h, fun _ => call_9 hn y1 w h, fun _ => call_10 hn h, fun _ => call_11 hn y1 y2 w h, fun _ => call_12 hn y1 y2 y3 y4 w h, fun _ => call_13 hn y1 y2 y3 y4 w h, fun _ => call_14 hn y1 y2 y3 y4 w h, fun _ => call_15 hn y1 y2 y3 w h, fun _ => call_16 hn y1 y2 w h, fun _ => call_17 hn y1 y2 y3 w h, fun _ => call_18 hn y1 y2 y3 y4 y5 w h, fun _ => call_19 hn y1 w h, fun _ => call_20 hn y1 h, fun _ => next_ok h⟩⟩
