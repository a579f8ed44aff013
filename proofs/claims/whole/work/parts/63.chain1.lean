/-! CHAINS: the greedy one, and the string -/
def chN : Nat → Nat
  | 1 => 1
  | 2 => 3
  | 3 => 23
  | 4 => 2479
  | 5 => 73743071
  | 6 => 151050438420815295
  | 7 => 1360791906900646753867474206897715071
  | 8 => 228824044090659455778900855050322128002759787305348791014476408721956007679
  | 9 => 13170532948442584686948722668953471883527014833004221834045753054003846907484629234261434498398708242971741866636280660094494522462419618801705983655423
  | _ => 0
def chT : Nat → Nat
  | 1 => 512
  | 2 => 402654209
  | 3 => 64563780249369708034
  | 4 => 653343806355968497829398230435004943697923
  | 5 => 30111449354763038651534976132635019042324399243321895010122578409436930919240593574404
  | 6 => 30433319607243596711823085962638760424802039491776006379533728103222328122537065831258434636871522487558508144998001529959183428226939371444931729555221878247829902177602565
  | 7 => 15173650249103388552275846888167408799651553942772136931445078531309719273322650282120895736296141224120153359938644896703867386308373688219356307579556348851029602739379734207589685017717919393140950919096713181221132061578110017910303685094123779483739882691322110931261172862741887895903233624001551065109552693457011450691192011421906125196806
  | 8 => 1863723981888060252147406636323866146609094035357418587625513976525664835381980531029057539590678360482605101416596739246208496981460242740548471795131326252995466690662409984492131596284623993960883409610327693471373253150353914507040710299318101567685881762164242941993412629780253151809591683651250472701619092087631346581927707418928356152494395084011949816923676198705386195098722470182659766848179919092179576313001987057999603857864602922331800606248721459432508097687016319506361842418485054266557032206941334310782181030332269278851477238991710880271036680694659216485865216804604232970034388178874511398720307284869828005074741481608285289524995176298423479342934743577322410842787847
  | 9 => 13975661576815771847334854830378737693598284062680883929015163762180338524669101875230586757049680851846895112317778439963880649612932802758200749231149671080715307000852791959501310133000432887358636017582039975875355311555208907524903946130255684131773843886880561736426070992884411611468533848540432499322870829063561145959818992066517143854897934472968838545596719164806606694301751554713479659671086006403651324124495012679440397986367002399762825153037169369733754234235900129414693256142485330551740940539686349976913567038732704306913552110208882962843388912532649531924058154937183048733100582805343694735709646154294023478392978278489443058754041430919233015256842561449544157061032156019085578856881810517252500128891368951627591368798565942019927802661911219743643099590413585094823169362982490283143650913539328769345221049293342425874952647575005147159524425516280872339573413969813514040244068110379842003738261839644152470127013717764757847505730207712685542999695803324612143507193143502812292913514718293326540242544426638390663435446044978648086454417927008230281189369222128997163121660867293622345063678615611947809626452809789503250637030250550556795309915435196163196332376744963341806069176382258489549121798663983938237944213388590399713966530749436409393602778877396498359919086109908860538208341774153466405846215496480130121039401808010360903531327119669334536
  | _ => 0
def grN (r l M : Nat) : Nat := if M.testBit (2 * l % 2 ^ r) = true then 2 * l % 2 ^ r + 1 else 2 * l % 2 ^ r
def grL (r : Nat) : Nat → Nat → Nat → List Nat
  | 0, _, _ => []
  | k + 1, l, M => grN r l M :: grL r k (grN r l M) (M ||| 2 ^ grN r l M)
def outL (r : Nat) : Nat → Nat → Nat → Nat → List Bool
  | 0, _, p, l => if r % p = 0 then (List.range p).map (fun k => l.testBit (k + 1)) else []
  | q + 1, t, p, l => if l.testBit (t - p) = true then outL r q (t + 1) p (l + 2 ^ t) else outL r q (t + 1) p l ++ outL r q (t + 1) t (l + 2 ^ t)
def chB (r x : Nat) : Bool := (chN r).testBit (2 ^ r - 1 - x)
/-- the word at a stand -/
def chV (r a : Nat) : Nat := woA (fun j => chB r ((a + j) % 2 ^ r)) r
/-- the place where a word ends -/
def chP (r w : Nat) : Nat := chT r / 2 ^ (9 * w) % 512
def allI (f : Nat → Nat → Bool) : Nat → List Nat → Bool
  | _, [] => true
  | s, y :: l => f s y && allI f (s + 1) l
def okG (r s y : Nat) : Bool := chB r s == decide (y % 2 = 1) && chV r ((s + 2 ^ r + 1 - r) % 2 ^ r) == y && chP r y == s && decide (y < 2 ^ r)
def okW (r w : Nat) : Bool := chV r ((chP r w + 2 ^ r + 1 - r) % 2 ^ r) == w && decide (chP r w < 2 ^ r)
def okC (r : Nat) : Bool := allI (okG r) 0 (grL r (2 ^ r) (2 ^ r - 1) 0) && (List.range (2 ^ r)).all (okW r) && outL r r 1 1 0 == (List.range (2 ^ r)).map (chB r)
theorem okC_1 : okC 1 = true := by decide +kernel
theorem okC_2 : okC 2 = true := by decide +kernel
theorem okC_3 : okC 3 = true := by decide +kernel
theorem okC_4 : okC 4 = true := by decide +kernel
theorem okC_5 : okC 5 = true := by decide +kernel
theorem okC_6 : okC 6 = true := by decide +kernel
theorem okC_7 : okC 7 = true := by decide +kernel
theorem okC_8 : okC 8 = true := by decide +kernel
theorem okC_9 : okC 9 = true := by decide +kernel
theorem okC_all : ∀ r, 1 ≤ r → r ≤ 9 → okC r = true := by
  intro r h1 h9
  rcases (show r = 1 ∨ r = 2 ∨ r = 3 ∨ r = 4 ∨ r = 5 ∨ r = 6 ∨ r = 7 ∨ r = 8 ∨ r = 9 by omega) with rfl | rfl | rfl | rfl | rfl | rfl | rfl | rfl | rfl
  · exact okC_1
  · exact okC_2
  · exact okC_3
  · exact okC_4
  · exact okC_5
  · exact okC_6
  · exact okC_7
  · exact okC_8
  · exact okC_9
/-- the stand of a word -/
def chA (r w : Nat) : Nat := (chP r w + 2 ^ r + 1 - r) % 2 ^ r
theorem ch_g {r : Nat} (h1 : 1 ≤ r) (h9 : r ≤ 9) : allI (okG r) 0 (grL r (2 ^ r) (2 ^ r - 1) 0) = true := by
  have := okC_all r h1 h9
  unfold okC at this
  rw [Bool.and_eq_true, Bool.and_eq_true] at this
  exact this.1.1
theorem ch_w {r w : Nat} (h1 : 1 ≤ r) (h9 : r ≤ 9) (hw : w < 2 ^ r) : chV r (chA r w) = w ∧ chP r w < 2 ^ r := by
  have := okC_all r h1 h9
  unfold okC at this
  rw [Bool.and_eq_true, Bool.and_eq_true] at this
  have q := List.all_eq_true.mp this.1.2 w (List.mem_range.mpr hw)
  unfold okW at q
  rw [Bool.and_eq_true] at q
  exact ⟨eq_of_beq q.1, of_decide_eq_true q.2⟩
theorem ch_o {r : Nat} (h1 : 1 ≤ r) (h9 : r ≤ 9) : outL r r 1 1 0 = (List.range (2 ^ r)).map (chB r) := by
  have := okC_all r h1 h9
  unfold okC at this
  rw [Bool.and_eq_true] at this
  exact eq_of_beq this.2
theorem okG_e {r s y : Nat} (h : okG r s y = true) : chB r s = decide (y % 2 = 1) ∧ chV r ((s + 2 ^ r + 1 - r) % 2 ^ r) = y ∧ chP r y = s ∧ y < 2 ^ r := by
  unfold okG at h
  rw [Bool.and_eq_true, Bool.and_eq_true, Bool.and_eq_true] at h
  exact ⟨eq_of_beq h.1.1.1, eq_of_beq h.1.1.2, eq_of_beq h.1.2, of_decide_eq_true h.2⟩
theorem allI_at {f : Nat → Nat → Bool} : ∀ (l : List Nat) s, allI f s l = true → ∀ j, j < l.length → ∃ y, f (s + j) y = true
  | [], _, _, j, hj => absurd hj (Nat.not_lt_zero j)
  | y :: l, s, h, j, hj => by
    unfold allI at h
    rw [Bool.and_eq_true] at h
    cases j with
    | zero => exact ⟨y, h.1⟩
    | succ j =>
      have := allI_at l (s + 1) h.2 j (by simpa using hj)
      rw [show s + 1 + j = s + (j + 1) by omega] at this
      exact this
theorem grL_len (r : Nat) : ∀ k l M, (grL r k l M).length = k
  | 0, _, _ => rfl
  | k + 1, l, M => by
    unfold grL
    rw [List.length_cons, grL_len r k]
/-- a word stands at one stand alone -/
theorem ch_one {r w a : Nat} (h1 : 1 ≤ r) (h9 : r ≤ 9) (ha : a < 2 ^ r) (h : chV r a = w) : a = chA r w := by
  have hp : r < 2 ^ r := Nat.lt_two_pow_self
  have hs : (a + r - 1) % 2 ^ r < 2 ^ r := Nat.mod_lt _ (by omega)
  obtain ⟨y, hy⟩ := allI_at _ 0 (ch_g h1 h9) ((a + r - 1) % 2 ^ r) (by rw [grL_len]; exact hs)
  rw [Nat.zero_add] at hy
  obtain ⟨_, g2, g3, _⟩ := okG_e hy
  have e : ((a + r - 1) % 2 ^ r + 2 ^ r + 1 - r) % 2 ^ r = a := by
    rw [show (a + r - 1) % 2 ^ r + 2 ^ r + 1 - r = (a + r - 1) % 2 ^ r + (2 ^ r + 1 - r) by omega, Nat.mod_add_mod, show a + r - 1 + (2 ^ r + 1 - r) = a + 2 ^ r by omega, Nat.add_mod_right, Nat.mod_eq_of_lt ha]
  rw [e, h] at g2
  unfold chA
  rw [g2, g3, e]
