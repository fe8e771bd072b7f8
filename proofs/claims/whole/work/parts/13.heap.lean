/-! ===== fields ===== -/
/-- field x of the objects of kind k: its code and target, its class, the class's tables, its names -/
def FD (k x cd t : Nat) (X : String) (T : u_T) (N : Nat) (ref nm ds : String) (fin : Bool) (ty : FieldType) : Prop :=
  (∃ ci fs, lyO k = some (ci, fs) ∧ fs[x]? = some (cd, t) ∧ vwCl[ci]? = some (X, T, N) ∧ fs.length = N) ∧ T x = (ref, nm, ds, fin) ∧ (∀ w ∈ u_ws X T N, w ∈ allW) ∧ parseFieldDescriptor ds = some ty ∧
  (∃ ty0 : Nat → FieldType, ∀ k, k < N → parseFieldDescriptor (T k).2.2.1 = some (ty0 k)) ∧ (∀ a, a < N → ∀ b, b < N → a ≠ b → (T a).2.1 ≠ (T b).2.1)
theorem fd_0_0 : FD 0 0 3 1 RX10 TX10 14 "PackDesk" "rows" "[LPackDesk$Row;" true (.array (.object "PackDesk$Row")) := ⟨⟨_, _, rfl, rfl, rfl, rfl⟩, rfl, uwX10, by decide +kernel, ⟨tyX10, tyX10_ok⟩, nmX10⟩
theorem fd_0_1 : FD 0 1 3 2 RX10 TX10 14 "PackDesk" "streams" "[LPackDesk$Stream;" true (.array (.object "PackDesk$Stream")) := ⟨⟨_, _, rfl, rfl, rfl, rfl⟩, rfl, uwX10, by decide +kernel, ⟨tyX10, tyX10_ok⟩, nmX10⟩
theorem fd_0_2 : FD 0 2 3 3 RX10 TX10 14 "PackDesk" "houses" "[LPackDesk$House;" true (.array (.object "PackDesk$House")) := ⟨⟨_, _, rfl, rfl, rfl, rfl⟩, rfl, uwX10, by decide +kernel, ⟨tyX10, tyX10_ok⟩, nmX10⟩
theorem fd_0_3 : FD 0 3 3 4 RX10 TX10 14 "PackDesk" "deltas" "[LPackDesk$Delta;" true (.array (.object "PackDesk$Delta")) := ⟨⟨_, _, rfl, rfl, rfl, rfl⟩, rfl, uwX10, by decide +kernel, ⟨tyX10, tyX10_ok⟩, nmX10⟩
theorem fd_0_4 : FD 0 4 3 6 RX10 TX10 14 "PackDesk" "store" "LPackDesk$Store;" true (.object "PackDesk$Store") := ⟨⟨_, _, rfl, rfl, rfl, rfl⟩, rfl, uwX10, by decide +kernel, ⟨tyX10, tyX10_ok⟩, nmX10⟩
theorem fd_0_5 : FD 0 5 3 8 RX10 TX10 14 "PackDesk" "packer" "LPackDesk$Packer;" true (.object "PackDesk$Packer") := ⟨⟨_, _, rfl, rfl, rfl, rfl⟩, rfl, uwX10, by decide +kernel, ⟨tyX10, tyX10_ok⟩, nmX10⟩
theorem fd_0_6 : FD 0 6 3 12 RX10 TX10 14 "PackDesk" "reader" "LPackDesk$PieceReader;" true (.object "PackDesk$PieceReader") := ⟨⟨_, _, rfl, rfl, rfl, rfl⟩, rfl, uwX10, by decide +kernel, ⟨tyX10, tyX10_ok⟩, nmX10⟩
theorem fd_0_7 : FD 0 7 3 5 RX10 TX10 14 "PackDesk" "timesFound" "[I" true (.array .int) := ⟨⟨_, _, rfl, rfl, rfl, rfl⟩, rfl, uwX10, by decide +kernel, ⟨tyX10, tyX10_ok⟩, nmX10⟩
theorem fd_0_8 : FD 0 8 0 0 RX10 TX10 14 "PackDesk" "rowsMade" "I" false .int := ⟨⟨_, _, rfl, rfl, rfl, rfl⟩, rfl, uwX10, by decide +kernel, ⟨tyX10, tyX10_ok⟩, nmX10⟩
theorem fd_0_9 : FD 0 9 0 0 RX10 TX10 14 "PackDesk" "streamsMade" "I" false .int := ⟨⟨_, _, rfl, rfl, rfl, rfl⟩, rfl, uwX10, by decide +kernel, ⟨tyX10, tyX10_ok⟩, nmX10⟩
theorem fd_0_10 : FD 0 10 0 0 RX10 TX10 14 "PackDesk" "housesMade" "I" false .int := ⟨⟨_, _, rfl, rfl, rfl, rfl⟩, rfl, uwX10, by decide +kernel, ⟨tyX10, tyX10_ok⟩, nmX10⟩
theorem fd_0_11 : FD 0 11 0 0 RX10 TX10 14 "PackDesk" "deltasMade" "I" false .int := ⟨⟨_, _, rfl, rfl, rfl, rfl⟩, rfl, uwX10, by decide +kernel, ⟨tyX10, tyX10_ok⟩, nmX10⟩
theorem fd_0_12 : FD 0 12 0 0 RX10 TX10 14 "PackDesk" "latestFinding" "I" false .int := ⟨⟨_, _, rfl, rfl, rfl, rfl⟩, rfl, uwX10, by decide +kernel, ⟨tyX10, tyX10_ok⟩, nmX10⟩
theorem fd_0_13 : FD 0 13 1 0 RX10 TX10 14 "PackDesk" "whatWasSeen" "J" false .long := ⟨⟨_, _, rfl, rfl, rfl, rfl⟩, rfl, uwX10, by decide +kernel, ⟨tyX10, tyX10_ok⟩, nmX10⟩
theorem fd_6_0 : FD 6 0 3 7 RX8 TX8 3 "PackDesk$Store" "bodies" "[LPackDesk$Body;" true (.array (.object "PackDesk$Body")) := ⟨⟨_, _, rfl, rfl, rfl, rfl⟩, rfl, uwX8, by decide +kernel, ⟨tyX8, tyX8_ok⟩, nmX8⟩
theorem fd_6_1 : FD 6 1 0 0 RX8 TX8 3 "PackDesk$Store" "atHand" "I" false .int := ⟨⟨_, _, rfl, rfl, rfl, rfl⟩, rfl, uwX8, by decide +kernel, ⟨tyX8, tyX8_ok⟩, nmX8⟩
theorem fd_6_2 : FD 6 2 0 0 RX8 TX8 3 "PackDesk$Store" "ever" "I" false .int := ⟨⟨_, _, rfl, rfl, rfl, rfl⟩, rfl, uwX8, by decide +kernel, ⟨tyX8, tyX8_ok⟩, nmX8⟩
theorem fd_8_0 : FD 8 0 3 9 RX5 TX5 8 "PackDesk$Packer" "made" "[B" true (.array .byte) := ⟨⟨_, _, rfl, rfl, rfl, rfl⟩, rfl, uwX5, by decide +kernel, ⟨tyX5, tyX5_ok⟩, nmX5⟩
theorem fd_8_1 : FD 8 1 0 0 RX5 TX5 8 "PackDesk$Packer" "size" "I" false .int := ⟨⟨_, _, rfl, rfl, rfl, rfl⟩, rfl, uwX5, by decide +kernel, ⟨tyX5, tyX5_ok⟩, nmX5⟩
theorem fd_8_2 : FD 8 2 3 10 RX5 TX5 8 "PackDesk$Packer" "opened" "[J" true (.array .long) := ⟨⟨_, _, rfl, rfl, rfl, rfl⟩, rfl, uwX5, by decide +kernel, ⟨tyX5, tyX5_ok⟩, nmX5⟩
theorem fd_8_3 : FD 8 3 3 11 RX5 TX5 8 "PackDesk$Packer" "worked" "[J" true (.array .long) := ⟨⟨_, _, rfl, rfl, rfl, rfl⟩, rfl, uwX5, by decide +kernel, ⟨tyX5, tyX5_ok⟩, nmX5⟩
theorem fd_8_4 : FD 8 4 2 15 RX5 TX5 8 "PackDesk$Packer" "source" "LPackDesk$Stream;" false (.object "PackDesk$Stream") := ⟨⟨_, _, rfl, rfl, rfl, rfl⟩, rfl, uwX5, by decide +kernel, ⟨tyX5, tyX5_ok⟩, nmX5⟩
theorem fd_8_5 : FD 8 5 0 0 RX5 TX5 8 "PackDesk$Packer" "from" "I" false .int := ⟨⟨_, _, rfl, rfl, rfl, rfl⟩, rfl, uwX5, by decide +kernel, ⟨tyX5, tyX5_ok⟩, nmX5⟩
theorem fd_8_6 : FD 8 6 0 0 RX5 TX5 8 "PackDesk$Packer" "until" "I" false .int := ⟨⟨_, _, rfl, rfl, rfl, rfl⟩, rfl, uwX5, by decide +kernel, ⟨tyX5, tyX5_ok⟩, nmX5⟩
theorem fd_8_7 : FD 8 7 0 0 RX5 TX5 8 "PackDesk$Packer" "astray" "Z" false .boolean := ⟨⟨_, _, rfl, rfl, rfl, rfl⟩, rfl, uwX5, by decide +kernel, ⟨tyX5, tyX5_ok⟩, nmX5⟩
theorem fd_12_0 : FD 12 0 0 0 RX6 TX6 3 "PackDesk$PieceReader" "ofKind" "I" false .int := ⟨⟨_, _, rfl, rfl, rfl, rfl⟩, rfl, uwX6, by decide +kernel, ⟨tyX6, tyX6_ok⟩, nmX6⟩
theorem fd_12_1 : FD 12 1 0 0 RX6 TX6 3 "PackDesk$PieceReader" "howMany" "I" false .int := ⟨⟨_, _, rfl, rfl, rfl, rfl⟩, rfl, uwX6, by decide +kernel, ⟨tyX6, tyX6_ok⟩, nmX6⟩
theorem fd_12_2 : FD 12 2 0 0 RX6 TX6 3 "PackDesk$PieceReader" "behind" "I" false .int := ⟨⟨_, _, rfl, rfl, rfl, rfl⟩, rfl, uwX6, by decide +kernel, ⟨tyX6, tyX6_ok⟩, nmX6⟩
theorem fd_13_0 : FD 13 0 0 0 RX7 TX7 3 "PackDesk$Row" "ofKind" "I" true .int := ⟨⟨_, _, rfl, rfl, rfl, rfl⟩, rfl, uwX7, by decide +kernel, ⟨tyX7, tyX7_ok⟩, nmX7⟩
theorem fd_13_1 : FD 13 1 3 14 RX7 TX7 3 "PackDesk$Row" "numbers" "[J" true (.array .long) := ⟨⟨_, _, rfl, rfl, rfl, rfl⟩, rfl, uwX7, by decide +kernel, ⟨tyX7, tyX7_ok⟩, nmX7⟩
theorem fd_13_2 : FD 13 2 0 0 RX7 TX7 3 "PackDesk$Row" "lost" "Z" false .boolean := ⟨⟨_, _, rfl, rfl, rfl, rfl⟩, rfl, uwX7, by decide +kernel, ⟨tyX7, tyX7_ok⟩, nmX7⟩
theorem fd_15_0 : FD 15 0 3 16 RX9 TX9 4 "PackDesk$Stream" "bytes" "[B" true (.array .byte) := ⟨⟨_, _, rfl, rfl, rfl, rfl⟩, rfl, uwX9, by decide +kernel, ⟨tyX9, tyX9_ok⟩, nmX9⟩
theorem fd_15_1 : FD 15 1 0 0 RX9 TX9 4 "PackDesk$Stream" "size" "I" false .int := ⟨⟨_, _, rfl, rfl, rfl, rfl⟩, rfl, uwX9, by decide +kernel, ⟨tyX9, tyX9_ok⟩, nmX9⟩
theorem fd_15_2 : FD 15 2 0 0 RX9 TX9 4 "PackDesk$Stream" "place" "I" false .int := ⟨⟨_, _, rfl, rfl, rfl, rfl⟩, rfl, uwX9, by decide +kernel, ⟨tyX9, tyX9_ok⟩, nmX9⟩
theorem fd_15_3 : FD 15 3 0 0 RX9 TX9 4 "PackDesk$Stream" "ended" "Z" false .boolean := ⟨⟨_, _, rfl, rfl, rfl, rfl⟩, rfl, uwX9, by decide +kernel, ⟨tyX9, tyX9_ok⟩, nmX9⟩
theorem fd_17_0 : FD 17 0 3 18 RX3 TX3 3 "PackDesk$House" "paths" "[J" true (.array .long) := ⟨⟨_, _, rfl, rfl, rfl, rfl⟩, rfl, uwX3, by decide +kernel, ⟨tyX3, tyX3_ok⟩, nmX3⟩
theorem fd_17_1 : FD 17 1 3 19 RX3 TX3 3 "PackDesk$House" "bodies" "[LPackDesk$Body;" true (.array (.object "PackDesk$Body")) := ⟨⟨_, _, rfl, rfl, rfl, rfl⟩, rfl, uwX3, by decide +kernel, ⟨tyX3, tyX3_ok⟩, nmX3⟩
theorem fd_17_2 : FD 17 2 0 0 RX3 TX3 3 "PackDesk$House" "entries" "I" false .int := ⟨⟨_, _, rfl, rfl, rfl, rfl⟩, rfl, uwX3, by decide +kernel, ⟨tyX3, tyX3_ok⟩, nmX3⟩
theorem fd_20_0 : FD 20 0 3 21 RX0 TX0 4 "PackDesk$Body" "bytes" "[B" true (.array .byte) := ⟨⟨_, _, rfl, rfl, rfl, rfl⟩, rfl, uwX0, by decide +kernel, ⟨tyX0, tyX0_ok⟩, nmX0⟩
theorem fd_20_1 : FD 20 1 0 0 RX0 TX0 4 "PackDesk$Body" "size" "I" false .int := ⟨⟨_, _, rfl, rfl, rfl, rfl⟩, rfl, uwX0, by decide +kernel, ⟨tyX0, tyX0_ok⟩, nmX0⟩
theorem fd_20_2 : FD 20 2 0 0 RX0 TX0 4 "PackDesk$Body" "number" "I" false .int := ⟨⟨_, _, rfl, rfl, rfl, rfl⟩, rfl, uwX0, by decide +kernel, ⟨tyX0, tyX0_ok⟩, nmX0⟩
theorem fd_20_3 : FD 20 3 0 0 RX0 TX0 4 "PackDesk$Body" "users" "I" false .int := ⟨⟨_, _, rfl, rfl, rfl, rfl⟩, rfl, uwX0, by decide +kernel, ⟨tyX0, tyX0_ok⟩, nmX0⟩
theorem fd_22_0 : FD 22 0 0 0 RX1 TX1 8 "PackDesk$Delta" "fromSize" "I" true .int := ⟨⟨_, _, rfl, rfl, rfl, rfl⟩, rfl, uwX1, by decide +kernel, ⟨tyX1, tyX1_ok⟩, nmX1⟩
theorem fd_22_1 : FD 22 1 0 0 RX1 TX1 8 "PackDesk$Delta" "fromSum" "I" true .int := ⟨⟨_, _, rfl, rfl, rfl, rfl⟩, rfl, uwX1, by decide +kernel, ⟨tyX1, tyX1_ok⟩, nmX1⟩
theorem fd_22_2 : FD 22 2 3 23 RX1 TX1 8 "PackDesk$Delta" "places" "[I" true (.array .int) := ⟨⟨_, _, rfl, rfl, rfl, rfl⟩, rfl, uwX1, by decide +kernel, ⟨tyX1, tyX1_ok⟩, nmX1⟩
theorem fd_22_3 : FD 22 3 3 24 RX1 TX1 8 "PackDesk$Delta" "lengths" "[I" true (.array .int) := ⟨⟨_, _, rfl, rfl, rfl, rfl⟩, rfl, uwX1, by decide +kernel, ⟨tyX1, tyX1_ok⟩, nmX1⟩
theorem fd_22_4 : FD 22 4 3 25 RX1 TX1 8 "PackDesk$Delta" "added" "[B" true (.array .byte) := ⟨⟨_, _, rfl, rfl, rfl, rfl⟩, rfl, uwX1, by decide +kernel, ⟨tyX1, tyX1_ok⟩, nmX1⟩
theorem fd_22_5 : FD 22 5 0 0 RX1 TX1 8 "PackDesk$Delta" "acts" "I" false .int := ⟨⟨_, _, rfl, rfl, rfl, rfl⟩, rfl, uwX1, by decide +kernel, ⟨tyX1, tyX1_ok⟩, nmX1⟩
theorem fd_22_6 : FD 22 6 0 0 RX1 TX1 8 "PackDesk$Delta" "bytesAdded" "I" false .int := ⟨⟨_, _, rfl, rfl, rfl, rfl⟩, rfl, uwX1, by decide +kernel, ⟨tyX1, tyX1_ok⟩, nmX1⟩
theorem fd_22_7 : FD 22 7 0 0 RX1 TX1 8 "PackDesk$Delta" "bytesCopied" "I" false .int := ⟨⟨_, _, rfl, rfl, rfl, rfl⟩, rfl, uwX1, by decide +kernel, ⟨tyX1, tyX1_ok⟩, nmX1⟩
theorem fd_29_0 : FD 29 0 0 0 RX11 TX11 37 "PackDeskModel" "latest" "I" false .int := ⟨⟨_, _, rfl, rfl, rfl, rfl⟩, rfl, uwX11, by decide +kernel, ⟨tyX11, tyX11_ok⟩, nmX11⟩
theorem fd_29_1 : FD 29 1 3 31 RX11 TX11 37 "PackDeskModel" "came" "[I" true (.array .int) := ⟨⟨_, _, rfl, rfl, rfl, rfl⟩, rfl, uwX11, by decide +kernel, ⟨tyX11, tyX11_ok⟩, nmX11⟩
theorem fd_29_2 : FD 29 2 1 0 RX11 TX11 37 "PackDeskModel" "seen" "J" false .long := ⟨⟨_, _, rfl, rfl, rfl, rfl⟩, rfl, uwX11, by decide +kernel, ⟨tyX11, tyX11_ok⟩, nmX11⟩
theorem fd_29_3 : FD 29 3 0 0 RX11 TX11 37 "PackDeskModel" "rows" "I" false .int := ⟨⟨_, _, rfl, rfl, rfl, rfl⟩, rfl, uwX11, by decide +kernel, ⟨tyX11, tyX11_ok⟩, nmX11⟩
theorem fd_29_4 : FD 29 4 3 34 RX11 TX11 37 "PackDeskModel" "rKind" "[I" true (.array .int) := ⟨⟨_, _, rfl, rfl, rfl, rfl⟩, rfl, uwX11, by decide +kernel, ⟨tyX11, tyX11_ok⟩, nmX11⟩
theorem fd_29_5 : FD 29 5 3 35 RX11 TX11 37 "PackDeskModel" "rSize" "[I" true (.array .int) := ⟨⟨_, _, rfl, rfl, rfl, rfl⟩, rfl, uwX11, by decide +kernel, ⟨tyX11, tyX11_ok⟩, nmX11⟩
theorem fd_29_6 : FD 29 6 3 36 RX11 TX11 37 "PackDeskModel" "rLost" "[Z" true (.array .boolean) := ⟨⟨_, _, rfl, rfl, rfl, rfl⟩, rfl, uwX11, by decide +kernel, ⟨tyX11, tyX11_ok⟩, nmX11⟩
theorem fd_29_7 : FD 29 7 3 37 RX11 TX11 37 "PackDeskModel" "words" "[J" true (.array .long) := ⟨⟨_, _, rfl, rfl, rfl, rfl⟩, rfl, uwX11, by decide +kernel, ⟨tyX11, tyX11_ok⟩, nmX11⟩
theorem fd_29_8 : FD 29 8 3 38 RX11 TX11 37 "PackDeskModel" "held" "[J" true (.array .long) := ⟨⟨_, _, rfl, rfl, rfl, rfl⟩, rfl, uwX11, by decide +kernel, ⟨tyX11, tyX11_ok⟩, nmX11⟩
theorem fd_29_9 : FD 29 9 3 39 RX11 TX11 37 "PackDeskModel" "value" "[J" true (.array .long) := ⟨⟨_, _, rfl, rfl, rfl, rfl⟩, rfl, uwX11, by decide +kernel, ⟨tyX11, tyX11_ok⟩, nmX11⟩
theorem fd_29_10 : FD 29 10 0 0 RX11 TX11 37 "PackDeskModel" "values" "I" false .int := ⟨⟨_, _, rfl, rfl, rfl, rfl⟩, rfl, uwX11, by decide +kernel, ⟨tyX11, tyX11_ok⟩, nmX11⟩
theorem fd_29_11 : FD 29 11 3 41 RX11 TX11 37 "PackDeskModel" "made" "[I" true (.array .int) := ⟨⟨_, _, rfl, rfl, rfl, rfl⟩, rfl, uwX11, by decide +kernel, ⟨tyX11, tyX11_ok⟩, nmX11⟩
theorem fd_29_12 : FD 29 12 0 0 RX11 TX11 37 "PackDeskModel" "madeSize" "I" false .int := ⟨⟨_, _, rfl, rfl, rfl, rfl⟩, rfl, uwX11, by decide +kernel, ⟨tyX11, tyX11_ok⟩, nmX11⟩
theorem fd_29_13 : FD 29 13 0 0 RX11 TX11 37 "PackDeskModel" "streams" "I" false .int := ⟨⟨_, _, rfl, rfl, rfl, rfl⟩, rfl, uwX11, by decide +kernel, ⟨tyX11, tyX11_ok⟩, nmX11⟩
theorem fd_29_14 : FD 29 14 3 44 RX11 TX11 37 "PackDeskModel" "bytes" "[I" true (.array .int) := ⟨⟨_, _, rfl, rfl, rfl, rfl⟩, rfl, uwX11, by decide +kernel, ⟨tyX11, tyX11_ok⟩, nmX11⟩
theorem fd_29_15 : FD 29 15 3 45 RX11 TX11 37 "PackDeskModel" "sSize" "[I" true (.array .int) := ⟨⟨_, _, rfl, rfl, rfl, rfl⟩, rfl, uwX11, by decide +kernel, ⟨tyX11, tyX11_ok⟩, nmX11⟩
theorem fd_29_16 : FD 29 16 3 46 RX11 TX11 37 "PackDeskModel" "sPlace" "[I" true (.array .int) := ⟨⟨_, _, rfl, rfl, rfl, rfl⟩, rfl, uwX11, by decide +kernel, ⟨tyX11, tyX11_ok⟩, nmX11⟩
theorem fd_29_17 : FD 29 17 3 47 RX11 TX11 37 "PackDeskModel" "sEnded" "[Z" true (.array .boolean) := ⟨⟨_, _, rfl, rfl, rfl, rfl⟩, rfl, uwX11, by decide +kernel, ⟨tyX11, tyX11_ok⟩, nmX11⟩
theorem fd_29_18 : FD 29 18 0 0 RX11 TX11 37 "PackDeskModel" "from" "I" false .int := ⟨⟨_, _, rfl, rfl, rfl, rfl⟩, rfl, uwX11, by decide +kernel, ⟨tyX11, tyX11_ok⟩, nmX11⟩
theorem fd_29_19 : FD 29 19 0 0 RX11 TX11 37 "PackDeskModel" "to" "I" false .int := ⟨⟨_, _, rfl, rfl, rfl, rfl⟩, rfl, uwX11, by decide +kernel, ⟨tyX11, tyX11_ok⟩, nmX11⟩
theorem fd_29_20 : FD 29 20 1 0 RX11 TX11 37 "PackDeskModel" "taken" "J" false .long := ⟨⟨_, _, rfl, rfl, rfl, rfl⟩, rfl, uwX11, by decide +kernel, ⟨tyX11, tyX11_ok⟩, nmX11⟩
theorem fd_29_21 : FD 29 21 3 51 RX11 TX11 37 "PackDeskModel" "bodyNumber" "[I" true (.array .int) := ⟨⟨_, _, rfl, rfl, rfl, rfl⟩, rfl, uwX11, by decide +kernel, ⟨tyX11, tyX11_ok⟩, nmX11⟩
theorem fd_29_22 : FD 29 22 3 52 RX11 TX11 37 "PackDeskModel" "bodySize" "[I" true (.array .int) := ⟨⟨_, _, rfl, rfl, rfl, rfl⟩, rfl, uwX11, by decide +kernel, ⟨tyX11, tyX11_ok⟩, nmX11⟩
theorem fd_29_23 : FD 29 23 3 53 RX11 TX11 37 "PackDeskModel" "bodyUses" "[I" true (.array .int) := ⟨⟨_, _, rfl, rfl, rfl, rfl⟩, rfl, uwX11, by decide +kernel, ⟨tyX11, tyX11_ok⟩, nmX11⟩
theorem fd_29_24 : FD 29 24 3 54 RX11 TX11 37 "PackDeskModel" "body" "[I" true (.array .int) := ⟨⟨_, _, rfl, rfl, rfl, rfl⟩, rfl, uwX11, by decide +kernel, ⟨tyX11, tyX11_ok⟩, nmX11⟩
theorem fd_29_25 : FD 29 25 0 0 RX11 TX11 37 "PackDeskModel" "bodiesEver" "I" false .int := ⟨⟨_, _, rfl, rfl, rfl, rfl⟩, rfl, uwX11, by decide +kernel, ⟨tyX11, tyX11_ok⟩, nmX11⟩
theorem fd_29_26 : FD 29 26 0 0 RX11 TX11 37 "PackDeskModel" "houses" "I" false .int := ⟨⟨_, _, rfl, rfl, rfl, rfl⟩, rfl, uwX11, by decide +kernel, ⟨tyX11, tyX11_ok⟩, nmX11⟩
theorem fd_29_27 : FD 29 27 3 57 RX11 TX11 37 "PackDeskModel" "entries" "[I" true (.array .int) := ⟨⟨_, _, rfl, rfl, rfl, rfl⟩, rfl, uwX11, by decide +kernel, ⟨tyX11, tyX11_ok⟩, nmX11⟩
theorem fd_29_28 : FD 29 28 3 58 RX11 TX11 37 "PackDeskModel" "paths" "[J" true (.array .long) := ⟨⟨_, _, rfl, rfl, rfl, rfl⟩, rfl, uwX11, by decide +kernel, ⟨tyX11, tyX11_ok⟩, nmX11⟩
theorem fd_29_29 : FD 29 29 3 59 RX11 TX11 37 "PackDeskModel" "bodyOf" "[I" true (.array .int) := ⟨⟨_, _, rfl, rfl, rfl, rfl⟩, rfl, uwX11, by decide +kernel, ⟨tyX11, tyX11_ok⟩, nmX11⟩
theorem fd_29_30 : FD 29 30 0 0 RX11 TX11 37 "PackDeskModel" "deltas" "I" false .int := ⟨⟨_, _, rfl, rfl, rfl, rfl⟩, rfl, uwX11, by decide +kernel, ⟨tyX11, tyX11_ok⟩, nmX11⟩
theorem fd_29_31 : FD 29 31 3 61 RX11 TX11 37 "PackDeskModel" "dFrom" "[I" true (.array .int) := ⟨⟨_, _, rfl, rfl, rfl, rfl⟩, rfl, uwX11, by decide +kernel, ⟨tyX11, tyX11_ok⟩, nmX11⟩
theorem fd_29_32 : FD 29 32 3 62 RX11 TX11 37 "PackDeskModel" "dSum" "[I" true (.array .int) := ⟨⟨_, _, rfl, rfl, rfl, rfl⟩, rfl, uwX11, by decide +kernel, ⟨tyX11, tyX11_ok⟩, nmX11⟩
theorem fd_29_33 : FD 29 33 3 63 RX11 TX11 37 "PackDeskModel" "dActs" "[I" true (.array .int) := ⟨⟨_, _, rfl, rfl, rfl, rfl⟩, rfl, uwX11, by decide +kernel, ⟨tyX11, tyX11_ok⟩, nmX11⟩
theorem fd_29_34 : FD 29 34 3 64 RX11 TX11 37 "PackDeskModel" "actPlace" "[I" true (.array .int) := ⟨⟨_, _, rfl, rfl, rfl, rfl⟩, rfl, uwX11, by decide +kernel, ⟨tyX11, tyX11_ok⟩, nmX11⟩
theorem fd_29_35 : FD 29 35 3 65 RX11 TX11 37 "PackDeskModel" "actSize" "[I" true (.array .int) := ⟨⟨_, _, rfl, rfl, rfl, rfl⟩, rfl, uwX11, by decide +kernel, ⟨tyX11, tyX11_ok⟩, nmX11⟩
theorem fd_29_36 : FD 29 36 3 66 RX11 TX11 37 "PackDeskModel" "added" "[I" true (.array .int) := ⟨⟨_, _, rfl, rfl, rfl, rfl⟩, rfl, uwX11, by decide +kernel, ⟨tyX11, tyX11_ok⟩, nmX11⟩
theorem rh_at {D : va_G} {dA : Nat → ClassId} {A : Nat → Prop} {σ : rS} {ad : Nat → Nat → Nat} {H : Heap} (h : Rh D dA A σ ad H) {k i : Nat} (hi : i < gC σ k) : ∃ (ws : va_W) (q : Nat), va_P D vwCl ws H ∧ va_D A ws ∧ ((∀ k i, i < gC σ k → ∃ q : Nat, ws[q]? = some (ad k i, ent dA σ ad k i)) ∧ ∀ (q : Nat) (e : Nat × va_E), ws[q]? = some e → ∃ k i, i < gC σ k ∧ e = (ad k i, ent dA σ ad k i)) ∧ ws[q]? = some (ad k i, ent dA σ ad k i) := by
  obtain ⟨-, -, hA, ws, hP, hD, hc, hx⟩ := h
  obtain ⟨q, hq⟩ := hc k i hi
  refine ⟨ws, q, hP, ⟨hD, fun q2 e he => ?_⟩, ⟨hc, hx⟩, hq⟩
  obtain ⟨a, b, hb, rfl⟩ := hx q2 e he
  exact hA a b hb
/-- one cell of the world has changed -/
theorem rh_set {D : va_G} {dA : Nat → ClassId} {A : Nat → Prop} {σ τ : rS} {ad : Nat → Nat → Nat} {H H1 : Heap} (h : Rh D dA A σ ad H) {k i : Nat} (hi : i < gC σ k) {ws : va_W} {q : Nat} (hcx : (∀ k i, i < gC σ k → ∃ q : Nat, ws[q]? = some (ad k i, ent dA σ ad k i)) ∧ ∀ (q : Nat) (e : Nat × va_E), ws[q]? = some e → ∃ k i, i < gC σ k ∧ e = (ad k i, ent dA σ ad k i)) (hq : ws[q]? = some (ad k i, ent dA σ ad k i))
    (hC : ∀ t, gC τ t = gC σ t) (hr : RfOk τ) (ho : ∀ k' i', ¬ (k' = k ∧ i' = i) → ent dA τ ad k' i' = ent dA σ ad k' i') {e' : va_E} (he : ent dA τ ad k i = e') (hP : va_P D vwCl (ws.set q (ad k i, e')) H1) (hD : va_D A (ws.set q (ad k i, e'))) : Rh D dA A τ ad H1 := by
  subst he
  obtain ⟨hc, hx⟩ := hcx
  have hl := (List.getElem?_eq_some_iff.mp hq).1
  refine ⟨fun a b a' b' h1 h2 => h.1 a b a' b' (by rw [← hC]; exact h1) (by rw [← hC]; exact h2), hr, fun a b hb => h.2.2.1 a b (by rw [← hC]; exact hb), _, hP, hD.1, fun a b hb => ?_, fun q2 e he => ?_⟩
  · rw [hC] at hb
    obtain ⟨q2, hq2⟩ := hc a b hb
    by_cases hk : a = k ∧ b = i
    · obtain ⟨rfl, rfl⟩ := hk
      refine ⟨q, ?_⟩
      rw [List.getElem?_set]
      simp [hl]
    · refine ⟨q2, ?_⟩
      rw [List.getElem?_set, if_neg, ho a b hk]
      · exact hq2
      · rintro rfl
        have e1 : ad k i = ad a b := congrArg Prod.fst (Option.some.inj (hq.symm.trans hq2))
        obtain ⟨r1, r2⟩ := h.1 k i a b hi hb e1
        exact hk ⟨r1.symm, r2.symm⟩
  · rw [List.getElem?_set] at he
    by_cases hk : q = q2
    · rw [if_pos hk] at he
      subst hk
      rw [if_pos hl] at he
      exact ⟨k, i, by rw [hC]; exact hi, (Option.some.inj he).symm⟩
    · rw [if_neg hk] at he
      obtain ⟨a, b, hb, rfl⟩ := hx q2 e he
      refine ⟨a, b, by rw [hC]; exact hb, ?_⟩
      rw [ho a b]
      rintro ⟨rfl, rfl⟩
      exact hk (hD.1 q q2 (ad a b, ent dA τ ad a b) (ad a b, ent dA σ ad a b) (by rw [List.getElem?_set]; simp [hl]) (by rw [List.getElem?_set, if_neg hk]; exact he) rfl)
theorem ent_obj {dA : Nat → ClassId} {σ : rS} {ad : Nat → Nat → Nat} {k i ci : Nat} {fs : List (Nat × Nat)} (h : lyO k = some (ci, fs)) : ent dA σ ad k i = .inr (ci, fvs σ ad k i 0 fs) := by
  unfold ent
  rw [h]
theorem ent_arr {dA : Nat → ClassId} {σ : rS} {ad : Nat → Nat → Nat} {k i : Nat} (h : lyO k = none) : ent dA σ ad k i = .inl (dA k, gN σ k i, enA σ ad k i) := by
  unfold ent
  rw [h]
theorem ent_sI {dA : Nat → ClassId} {σ : rS} {ad : Nat → Nat → Nat} {k i x : Nat} {v : Int32} {k' i' : Nat} (h : ¬ (k' = k ∧ i' = i)) : ent dA (sI σ k i x v) ad k' i' = ent dA σ ad k' i' := ent_congr (fun y => by rw [gI_sI, if_neg (fun q => h ⟨q.1, q.2.1⟩)]) (fun _ => rfl) (fun _ => rfl) rfl
theorem ent_sL {dA : Nat → ClassId} {σ : rS} {ad : Nat → Nat → Nat} {k i x : Nat} {v : Int64} {k' i' : Nat} (h : ¬ (k' = k ∧ i' = i)) : ent dA (sL σ k i x v) ad k' i' = ent dA σ ad k' i' := ent_congr (fun _ => rfl) (fun y => by rw [gL_sL, if_neg (fun q => h ⟨q.1, q.2.1⟩)]) (fun _ => rfl) rfl
theorem ent_sR {dA : Nat → ClassId} {σ : rS} {ad : Nat → Nat → Nat} {k i x : Nat} {v : Option Nat} {k' i' : Nat} (h : ¬ (k' = k ∧ i' = i)) : ent dA (sR σ k i x v) ad k' i' = ent dA σ ad k' i' := ent_congr (fun _ => rfl) (fun _ => rfl) (fun y => by rw [gR_sR, if_neg (fun q => h ⟨q.1, q.2.1⟩)]) rfl
theorem ent_sIr {dA : Nat → ClassId} {σ : rS} {ad : Nat → Nat → Nat} {k i : Nat} {f : Nat → Int32} {k' i' : Nat} (h : ¬ (k' = k ∧ i' = i)) : ent dA (sIr σ k i f) ad k' i' = ent dA σ ad k' i' := ent_congr (fun y => by rw [gI_sIr, if_neg h]) (fun _ => rfl) (fun _ => rfl) rfl
theorem ent_sLr {dA : Nat → ClassId} {σ : rS} {ad : Nat → Nat → Nat} {k i : Nat} {f : Nat → Int64} {k' i' : Nat} (h : ¬ (k' = k ∧ i' = i)) : ent dA (sLr σ k i f) ad k' i' = ent dA σ ad k' i' := ent_congr (fun _ => rfl) (fun y => by rw [gL_sLr, if_neg h]) (fun _ => rfl) rfl
theorem rf_sR {σ : rS} {k i x : Nat} {v : Option Nat} (h : RfOk σ) (hv : ∀ j, v = some j → j < gC σ (tk k x)) : RfOk (sR σ k i x v) := by
  refine ⟨fun a b y j hb hj => ?_, h.2⟩
  rw [gR_sR] at hj
  by_cases q : a = k ∧ b = i ∧ y = x
  · rw [if_pos q] at hj
    obtain ⟨rfl, rfl, rfl⟩ := q
    exact hv j hj
  · rw [if_neg q] at hj
    exact h.1 a b y j hb hj
/-- the fields behind a store -/
theorem fvs_set {σ τ : rS} {ad : Nat → Nat → Nat} {k i x : Nat} {fs : List (Nat × Nat)} {q : Nat × Nat} (hx : fs[x]? = some q) {v : Value} (h1 : fv τ ad k i x q = v) (h2 : ∀ y q', y ≠ x → fv τ ad k i y q' = fv σ ad k i y q') : fvs τ ad k i 0 fs = (fvs σ ad k i 0 fs).set x v := by
  apply List.ext_getElem?
  intro y
  rw [fvs_get, List.getElem?_set, fvs_len, fvs_get, Nat.zero_add]
  by_cases hy : x = y
  · subst hy
    rw [hx, if_pos rfl, if_pos (List.getElem?_eq_some_iff.mp hx).1]
    simp [h1]
  · rw [if_neg hy]
    cases fs[y]? with
    | none => rfl
    | some q' => simp only [Option.map]; rw [h2 y q' (fun e => hy e.symm)]
theorem al_C {σ τ : rS} (h : ∀ t, gC σ t ≤ gC τ t) {v : aV} (hv : al σ v) : al τ v := by
  match v, hv with
  | .inl _, _ => trivial
  | .inr (k, o), hv => exact fun i hi => Nat.lt_of_lt_of_le (hv i hi) (h k)
theorem als_C {σ τ : rS} (h : ∀ t, gC σ t ≤ gC τ t) : ∀ {st : List aV}, als σ st → als τ st
  | [], _ => trivial
  | _ :: _, hv => ⟨al_C h hv.1, als_C h hv.2⟩
theorem lvl_C {σ τ : rS} (h : ∀ t, gC σ t ≤ gC τ t) {lv : List (Nat × aV)} (hv : lvl σ lv) : lvl τ lv := fun q hq => al_C h (hv q hq)
section JH
variable {ρ : Type} {Γ : jX} {R : Room} {er : ρ → Option aV} {cc : ByteArray} {own : String} {nL : Nat} {ret : Option FieldType} {tg : ρ × rS} {kc ks : Nat} {pc : Nat} {lv lv' : List (Nat × aV)} {st : List aV} {σ : rS} {res : Option (ρ × rS)}
variable {k i x t N index : Nat} {X : String} {T : u_T} {ref nm ds : String} {fin : Bool} {ty : FieldType}
theorem j_getI (f : FD k x 0 0 X T N ref nm ds fin ty) (hl : Cond.fieldLink own index ref nm ds ∈ allW) (d : decode cc pc = .ok (.getfield index, 3)) (kk : J Γ R er cc own nL ret tg kc ks (pc + 3) lv (aI (gI σ k i x) :: st) σ res) : J Γ R er cc own nL ret tg kc ks pc lv (aR k i :: st) σ res := by
  obtain ⟨p, l, e, s, m, args, below, meth, c, D, dA, σ0, ad0⟩ := Γ
  intro C hres H locs ad ls hR hE hS hst hlv hL
  obtain ⟨⟨ci, fs, h1, h2, h3, h4⟩, hT, hu, -⟩ := f
  have hi : i < gC σ k := al_of hst.1
  obtain ⟨ws, q, hP, hD, hc, hq⟩ := rh_at hR hi
  rw [ent_obj h1] at hq
  have hN : x < N := by rw [← h4]; exact (List.getElem?_eq_some_iff.mp h2).1
  refine va_get (D := D) (ci := ci) (C := X) (T := T) (N := N) (v := fv σ ad k i x (0, 0)) C.1 C.2.1 C.2.2.2.2.1 hu C.2.2.2.1 (kk_v0 C.2.2.2.2.2.1) hP q hq h3 x hN (by rw [hT]; exact C.2.2.2.2.1 _ hl) (fun _ h9 => by rw [hT] at h9 ⊢; exact h9) (by rw [fvs_get, h2, Nat.zero_add]; rfl) d ?_
  exact kk C hres H locs ad ls hR hE hS ⟨trivial, hst.2⟩ hlv hL
theorem j_getL (f : FD k x 1 0 X T N ref nm ds fin ty) (hl : Cond.fieldLink own index ref nm ds ∈ allW) (d : decode cc pc = .ok (.getfield index, 3)) (kk : J Γ R er cc own nL ret tg kc ks (pc + 3) lv (aL (gL σ k i x) :: st) σ res) : J Γ R er cc own nL ret tg kc ks pc lv (aR k i :: st) σ res := by
  obtain ⟨p, l, e, s, m, args, below, meth, c, D, dA, σ0, ad0⟩ := Γ
  intro C hres H locs ad ls hR hE hS hst hlv hL
  obtain ⟨⟨ci, fs, h1, h2, h3, h4⟩, hT, hu, -⟩ := f
  have hi : i < gC σ k := al_of hst.1
  obtain ⟨ws, q, hP, hD, hc, hq⟩ := rh_at hR hi
  rw [ent_obj h1] at hq
  have hN : x < N := by rw [← h4]; exact (List.getElem?_eq_some_iff.mp h2).1
  refine va_get (D := D) (ci := ci) (C := X) (T := T) (N := N) (v := fv σ ad k i x (1, 0)) C.1 C.2.1 C.2.2.2.2.1 hu C.2.2.2.1 (kk_v0 C.2.2.2.2.2.1) hP q hq h3 x hN (by rw [hT]; exact C.2.2.2.2.1 _ hl) (fun _ h9 => by rw [hT] at h9 ⊢; exact h9) (by rw [fvs_get, h2, Nat.zero_add]; rfl) d ?_
  exact kk C hres H locs ad ls hR hE hS ⟨trivial, hst.2⟩ hlv hL
theorem j_getR0 (f : FD k x 2 t X T N ref nm ds fin ty) (hl : Cond.fieldLink own index ref nm ds ∈ allW) (d : decode cc pc = .ok (.getfield index, 3)) (kk : J Γ R er cc own nL ret tg kc ks (pc + 3) lv (aO t (gR σ k i x) :: st) σ res) : J Γ R er cc own nL ret tg kc ks pc lv (aR k i :: st) σ res := by
  obtain ⟨p, l, e, s, m, args, below, meth, c, D, dA, σ0, ad0⟩ := Γ
  intro C hres H locs ad ls hR hE hS hst hlv hL
  obtain ⟨⟨ci, fs, h1, h2, h3, h4⟩, hT, hu, -⟩ := f
  have hi : i < gC σ k := al_of hst.1
  obtain ⟨ws, q, hP, hD, hc, hq⟩ := rh_at hR hi
  rw [ent_obj h1] at hq
  have hN : x < N := by rw [← h4]; exact (List.getElem?_eq_some_iff.mp h2).1
  refine va_get (D := D) (ci := ci) (C := X) (T := T) (N := N) (v := fv σ ad k i x (2, t)) C.1 C.2.1 C.2.2.2.2.1 hu C.2.2.2.1 (kk_v0 C.2.2.2.2.2.1) hP q hq h3 x hN (by rw [hT]; exact C.2.2.2.2.1 _ hl) (fun _ h9 => by rw [hT] at h9 ⊢; exact h9) (by rw [fvs_get, h2, Nat.zero_add]; rfl) d ?_
  exact kk C hres H locs ad ls hR hE hS ⟨fun j hj => by have h9 := hR.2.1.1 k i x j hi hj; rwa [show tk k x = t by unfold tk; rw [h1]; simp [h2]] at h9, hst.2⟩ hlv hL
theorem j_getF (f : FD k x 3 t X T N ref nm ds fin ty) (hl : Cond.fieldLink own index ref nm ds ∈ allW) (d : decode cc pc = .ok (.getfield index, 3)) (kk : J Γ R er cc own nL ret tg kc ks (pc + 3) lv (aR t i :: st) σ res) : J Γ R er cc own nL ret tg kc ks pc lv (aR k i :: st) σ res := by
  obtain ⟨p, l, e, s, m, args, below, meth, c, D, dA, σ0, ad0⟩ := Γ
  intro C hres H locs ad ls hR hE hS hst hlv hL
  obtain ⟨⟨ci, fs, h1, h2, h3, h4⟩, hT, hu, -⟩ := f
  have hi : i < gC σ k := al_of hst.1
  obtain ⟨ws, q, hP, hD, hc, hq⟩ := rh_at hR hi
  rw [ent_obj h1] at hq
  have hN : x < N := by rw [← h4]; exact (List.getElem?_eq_some_iff.mp h2).1
  refine va_get (D := D) (ci := ci) (C := X) (T := T) (N := N) (v := fv σ ad k i x (3, t)) C.1 C.2.1 C.2.2.2.2.1 hu C.2.2.2.1 (kk_v0 C.2.2.2.2.2.1) hP q hq h3 x hN (by rw [hT]; exact C.2.2.2.2.1 _ hl) (fun _ h9 => by rw [hT] at h9 ⊢; exact h9) (by rw [fvs_get, h2, Nat.zero_add]; rfl) d ?_
  exact kk C hres H locs ad ls hR hE hS ⟨al_mk (hR.2.1.2 k i _ x t hi h1 h2), hst.2⟩ hlv hL
theorem j_putI {v : Int32} (f : FD k x 0 0 X T N ref nm ds false ty) (hn : narrow ty (.int v) = .int v) (hf : fits ty (.int v) = true) (hl : Cond.fieldLink own index ref nm ds ∈ allW) (d : decode cc pc = .ok (.putfield index, 3)) (kk : J Γ R er cc own nL ret tg kc ks (pc + 3) lv st (sI σ k i x v) res) : J Γ R er cc own nL ret tg kc ks pc lv (aI v :: aR k i :: st) σ res := by
  obtain ⟨p, l, e, s, m, args, below, meth, c, D, dA, σ0, ad0⟩ := Γ
  intro C hres H locs ad ls hR hE hS hst hlv hL
  obtain ⟨⟨ci, fs, h1, h2, h3, h4⟩, hT, hu, hps, ⟨ty0, hty⟩, hnm⟩ := f
  have hi : i < gC σ k := al_of hst.2.1
  obtain ⟨ws, q, hP, hD, hc, hq⟩ := rh_at hR hi
  have hq' := hq
  rw [ent_obj h1] at hq
  have hN : x < N := by rw [← h4]; exact (List.getElem?_eq_some_iff.mp h2).1
  refine va_put (D := D) (ci := ci) (C := X) (T := T) (N := N) (v := .int v) C.1 C.2.1 C.2.2.2.2.1 hu ty0 hty hnm C.2.2.2.1 (kk_v0 C.2.2.2.2.2.1) hP hD hS q hq h3 x hN (by rw [hT]; exact C.2.2.2.2.1 _ hl) (fun _ h9 => by rw [hT] at h9 ⊢; exact h9) (by rw [hT]) (by rw [hT]; exact hps) hn hf (by rw [fvs_len, h4]; exact hN) d (fun H1 locs1 hP1 hD1 hS1 => ?_)
  have hR1 : Rh D dA (rg σ0 ad0 s.heap.size) (sI σ k i x v) ad H1 := rh_set hR hi hc hq' (fun _ => rfl) (hR.2.1) (fun a b h => ent_sI h) ((ent_obj h1).trans (by rw [fvs_set (σ := σ) h2 (v := .int v) (by show fv (sI σ k i x v) ad k i x (0, 0) = _; simp [fv, gI_sI]) (fun y q' hy => by unfold fv; simp [gI_sI, gL_sI, gR_sI, hy])])) hP1 hD1
  exact kk C hres H1 locs1 ad ls hR1 (fun a b h => hE a b h) hS1 (als_C (σ := σ) (τ := sI σ k i x v) (fun t => Nat.le_refl (gC σ t)) hst.2.2) (lvl_C (σ := σ) (τ := sI σ k i x v) (fun t => Nat.le_refl (gC σ t)) hlv) hL
theorem j_putL {v : Int64} (f : FD k x 1 0 X T N ref nm ds false .long) (hl : Cond.fieldLink own index ref nm ds ∈ allW) (d : decode cc pc = .ok (.putfield index, 3)) (kk : J Γ R er cc own nL ret tg kc ks (pc + 3) lv st (sL σ k i x v) res) : J Γ R er cc own nL ret tg kc ks pc lv (aL v :: aR k i :: st) σ res := by
  obtain ⟨p, l, e, s, m, args, below, meth, c, D, dA, σ0, ad0⟩ := Γ
  intro C hres H locs ad ls hR hE hS hst hlv hL
  obtain ⟨⟨ci, fs, h1, h2, h3, h4⟩, hT, hu, hps, ⟨ty0, hty⟩, hnm⟩ := f
  have hi : i < gC σ k := al_of hst.2.1
  obtain ⟨ws, q, hP, hD, hc, hq⟩ := rh_at hR hi
  have hq' := hq
  rw [ent_obj h1] at hq
  have hN : x < N := by rw [← h4]; exact (List.getElem?_eq_some_iff.mp h2).1
  refine va_put (D := D) (ci := ci) (C := X) (T := T) (N := N) (v := .long v) C.1 C.2.1 C.2.2.2.2.1 hu ty0 hty hnm C.2.2.2.1 (kk_v0 C.2.2.2.2.2.1) hP hD hS q hq h3 x hN (by rw [hT]; exact C.2.2.2.2.1 _ hl) (fun _ h9 => by rw [hT] at h9 ⊢; exact h9) (by rw [hT]) (by rw [hT]; exact hps) rfl rfl (by rw [fvs_len, h4]; exact hN) d (fun H1 locs1 hP1 hD1 hS1 => ?_)
  have hR1 : Rh D dA (rg σ0 ad0 s.heap.size) (sL σ k i x v) ad H1 := rh_set hR hi hc hq' (fun _ => rfl) (hR.2.1) (fun a b h => ent_sL h) ((ent_obj h1).trans (by rw [fvs_set (σ := σ) h2 (v := .long v) (by show fv (sL σ k i x v) ad k i x (1, 0) = _; simp [fv, gL_sL]) (fun y q' hy => by unfold fv; simp [gI_sL, gL_sL, gR_sL, hy])])) hP1 hD1
  exact kk C hres H1 locs1 ad ls hR1 (fun a b h => hE a b h) hS1 (als_C (σ := σ) (τ := sL σ k i x v) (fun t => Nat.le_refl (gC σ t)) hst.2.2) (lvl_C (σ := σ) (τ := sL σ k i x v) (fun t => Nat.le_refl (gC σ t)) hlv) hL
theorem j_putR {v : Option Nat} {ob : String} (f : FD k x 2 t X T N ref nm ds false (.object ob)) (hl : Cond.fieldLink own index ref nm ds ∈ allW) (d : decode cc pc = .ok (.putfield index, 3)) (kk : J Γ R er cc own nL ret tg kc ks (pc + 3) lv st (sR σ k i x v) res) : J Γ R er cc own nL ret tg kc ks pc lv (aO t v :: aR k i :: st) σ res := by
  obtain ⟨p, l, e, s, m, args, below, meth, c, D, dA, σ0, ad0⟩ := Γ
  intro C hres H locs ad ls hR hE hS hst hlv hL
  obtain ⟨⟨ci, fs, h1, h2, h3, h4⟩, hT, hu, hps, ⟨ty0, hty⟩, hnm⟩ := f
  have hi : i < gC σ k := al_of hst.2.1
  obtain ⟨ws, q, hP, hD, hc, hq⟩ := rh_at hR hi
  have hq' := hq
  rw [ent_obj h1] at hq
  have hN : x < N := by rw [← h4]; exact (List.getElem?_eq_some_iff.mp h2).1
  refine va_put (D := D) (ci := ci) (C := X) (T := T) (N := N) (v := va_rf (v.map (ad t))) C.1 C.2.1 C.2.2.2.2.1 hu ty0 hty hnm C.2.2.2.1 (kk_v0 C.2.2.2.2.2.1) hP hD hS q hq h3 x hN (by rw [hT]; exact C.2.2.2.2.1 _ hl) (fun _ h9 => by rw [hT] at h9 ⊢; exact h9) (by rw [hT]) (by rw [hT]; exact hps) (by cases v <;> rfl) (by cases v <;> rfl) (by rw [fvs_len, h4]; exact hN) d (fun H1 locs1 hP1 hD1 hS1 => ?_)
  have hR1 : Rh D dA (rg σ0 ad0 s.heap.size) (sR σ k i x v) ad H1 := rh_set hR hi hc hq' (fun _ => rfl) (rf_sR hR.2.1 (fun j hj => by rw [show tk k x = t by unfold tk; rw [h1]; simp [h2]]; exact hst.1 j hj)) (fun a b h => ent_sR h) ((ent_obj h1).trans (by rw [fvs_set (σ := σ) h2 (v := va_rf (v.map (ad t))) (by show fv (sR σ k i x v) ad k i x (2, t) = _; simp [fv, gR_sR]) (fun y q' hy => by unfold fv; simp [gI_sR, gL_sR, gR_sR, hy])])) hP1 hD1
  exact kk C hres H1 locs1 ad ls hR1 (fun a b h => hE a b h) hS1 (als_C (σ := σ) (τ := sR σ k i x v) (fun t => Nat.le_refl (gC σ t)) hst.2.2) (lvl_C (σ := σ) (τ := sR σ k i x v) (fun t => Nat.le_refl (gC σ t)) hlv) hL
theorem j_iald {n : Int32} {F : Nat → Option (ρ × rS)} (h0 : lyO k = none) (h1 : (lyA k).1 = 0) (h2 : lyT k = .int) (d : decode cc pc = .ok (.iaload, 1)) (kk : ∀ j : Nat, J Γ R er cc own nL ret tg kc ks (pc + 1) lv (aI (gI σ k i j) :: st) σ (F j)) : J Γ R er cc own nL ret tg kc ks pc lv (aI n :: aR k i :: st) σ (idx n (gN σ k i) F) := by
  refine j_idx (fun j hj hv => ?_)
  have kk := kk j
  subst hj
  obtain ⟨p, l, e, s, m, args, below, meth, c, D, dA, σ0, ad0⟩ := Γ
  intro C hres H locs ad ls hR hE hS hst hlv hL
  have hi : i < gC σ k := al_of hst.2.1
  obtain ⟨ws, q, hP, hD, hc, hq⟩ := rh_at hR hi
  rw [ent_arr h0] at hq
  unfold enA at hq
  rw [h1] at hq
  exact va_iald C.1 C.2.1 (kk_va C.2.2.2.2.2.1 k (by rw [h1]; decide)) hP q 0 hq (by rw [h2]; rfl) hv d (kk C hres H locs ad ls hR hE hS ⟨trivial, hst.2.2⟩ hlv hL)
theorem j_bald {n : Int32} {F : Nat → Option (ρ × rS)} (h0 : lyO k = none) (h1 : (lyA k).1 = 1) (h2 : lyT k = .byte) (d : decode cc pc = .ok (.baload, 1)) (kk : ∀ j : Nat, J Γ R er cc own nL ret tg kc ks (pc + 1) lv (aI (gI σ k i j) :: st) σ (F j)) : J Γ R er cc own nL ret tg kc ks pc lv (aI n :: aR k i :: st) σ (idx n (gN σ k i) F) := by
  refine j_idx (fun j hj hv => ?_)
  have kk := kk j
  subst hj
  obtain ⟨p, l, e, s, m, args, below, meth, c, D, dA, σ0, ad0⟩ := Γ
  intro C hres H locs ad ls hR hE hS hst hlv hL
  have hi : i < gC σ k := al_of hst.2.1
  obtain ⟨ws, q, hP, hD, hc, hq⟩ := rh_at hR hi
  rw [ent_arr h0] at hq
  unfold enA at hq
  rw [h1] at hq
  exact va_bald C.1 C.2.1 (kk_va C.2.2.2.2.2.1 k (by rw [h1]; decide)) hP q 0 hq (by rw [h2]; rfl) hv d (kk C hres H locs ad ls hR hE hS ⟨trivial, hst.2.2⟩ hlv hL)
theorem j_zald {n : Int32} {F : Nat → Option (ρ × rS)} (h0 : lyO k = none) (h1 : (lyA k).1 = 2) (h2 : lyT k = .boolean) (d : decode cc pc = .ok (.baload, 1)) (kk : ∀ j : Nat, J Γ R er cc own nL ret tg kc ks (pc + 1) lv (aI (gI σ k i j) :: st) σ (F j)) : J Γ R er cc own nL ret tg kc ks pc lv (aI n :: aR k i :: st) σ (idx n (gN σ k i) F) := by
  refine j_idx (fun j hj hv => ?_)
  have kk := kk j
  subst hj
  obtain ⟨p, l, e, s, m, args, below, meth, c, D, dA, σ0, ad0⟩ := Γ
  intro C hres H locs ad ls hR hE hS hst hlv hL
  have hi : i < gC σ k := al_of hst.2.1
  obtain ⟨ws, q, hP, hD, hc, hq⟩ := rh_at hR hi
  rw [ent_arr h0] at hq
  unfold enA at hq
  rw [h1] at hq
  exact va_zald C.1 C.2.1 (kk_va C.2.2.2.2.2.1 k (by rw [h1]; decide)) hP q 0 hq (by rw [h2]; rfl) hv d (kk C hres H locs ad ls hR hE hS ⟨trivial, hst.2.2⟩ hlv hL)
theorem j_lald {n : Int32} {F : Nat → Option (ρ × rS)} (h0 : lyO k = none) (h1 : (lyA k).1 = 3) (h2 : lyT k = .long) (d : decode cc pc = .ok (.laload, 1)) (kk : ∀ j : Nat, J Γ R er cc own nL ret tg kc ks (pc + 1) lv (aL (gL σ k i j) :: st) σ (F j)) : J Γ R er cc own nL ret tg kc ks pc lv (aI n :: aR k i :: st) σ (idx n (gN σ k i) F) := by
  refine j_idx (fun j hj hv => ?_)
  have kk := kk j
  subst hj
  obtain ⟨p, l, e, s, m, args, below, meth, c, D, dA, σ0, ad0⟩ := Γ
  intro C hres H locs ad ls hR hE hS hst hlv hL
  have hi : i < gC σ k := al_of hst.2.1
  obtain ⟨ws, q, hP, hD, hc, hq⟩ := rh_at hR hi
  rw [ent_arr h0] at hq
  unfold enA at hq
  rw [h1] at hq
  exact va_lald C.1 C.2.1 (kk_va C.2.2.2.2.2.1 k (by rw [h1]; decide)) hP q 0 hq (by rw [h2]; rfl) hv d (kk C hres H locs ad ls hR hE hS ⟨trivial, hst.2.2⟩ hlv hL)
theorem j_aald0 {n : Int32} {F : Nat → Option (ρ × rS)} {ob : String} (h0 : lyO k = none) (h1 : lyA k = (4, t)) (h2 : lyT k = .object ob) (d : decode cc pc = .ok (.aaload, 1)) (kk : ∀ j : Nat, J Γ R er cc own nL ret tg kc ks (pc + 1) lv (aO t (gR σ k i j) :: st) σ (F j)) : J Γ R er cc own nL ret tg kc ks pc lv (aI n :: aR k i :: st) σ (idx n (gN σ k i) F) := by
  refine j_idx (fun j hj hv => ?_)
  have kk := kk j
  subst hj
  obtain ⟨p, l, e, s, m, args, below, meth, c, D, dA, σ0, ad0⟩ := Γ
  intro C hres H locs ad ls hR hE hS hst hlv hL
  have hi : i < gC σ k := al_of hst.2.1
  obtain ⟨ws, q, hP, hD, hc, hq⟩ := rh_at hR hi
  rw [ent_arr h0] at hq
  unfold enA at hq
  rw [h1] at hq
  exact va_aldq (C := ob) C.1 C.2.1 (kk_va C.2.2.2.2.2.1 k (by rw [h1]; exact Nat.lt_of_sub_pos (by decide : 0 < 9 - 4))) hP q 0 hq (by rw [h2]; rfl) hv d (kk C hres H locs ad ls hR hE hS ⟨fun j hj => by have h9 := hR.2.1.1 k i _ j hi hj; rwa [show tk k _ = t by unfold tk; rw [h0, h1]] at h9, hst.2.2⟩ hlv hL)
theorem j_alen (h0 : lyO k = none) (h1 : (lyA k).1 < 9) (d : decode cc pc = .ok (.arraylength, 1)) (kk : J Γ R er cc own nL ret tg kc ks (pc + 1) lv (aI (nI (gN σ k i)) :: st) σ res) : J Γ R er cc own nL ret tg kc ks pc lv (aR k i :: st) σ res := by
  obtain ⟨p, l, e, s, m, args, below, meth, c, D, dA, σ0, ad0⟩ := Γ
  intro C hres H locs ad ls hR hE hS hst hlv hL
  have hi : i < gC σ k := al_of hst.1
  obtain ⟨ws, q, hP, hD, hc, hq⟩ := rh_at hR hi
  rw [ent_arr h0] at hq
  exact va_alen C.1 C.2.1 (kk_va C.2.2.2.2.2.1 k h1) hP q 0 hq rfl rfl d (kk C hres H locs ad ls hR hE hS ⟨trivial, hst.2⟩ hlv hL)
theorem j_iast {n : Int32} {v : Int32} {F : Nat → Option (ρ × rS)} (h0 : lyO k = none) (h1 : lyA k = (0, 0)) (h2 : lyT k = .int) (d : decode cc pc = .ok (.iastore, 1)) (kk : ∀ j : Nat, J Γ R er cc own nL ret tg kc ks (pc + 1) lv st (sI σ k i j v) (F j)) : J Γ R er cc own nL ret tg kc ks pc lv (aI v :: aI n :: aR k i :: st) σ (idx n (gN σ k i) F) := by
  refine j_idx (fun j hj hv => ?_)
  have kk := kk j
  subst hj
  obtain ⟨p, l, e, s, m, args, below, meth, c, D, dA, σ0, ad0⟩ := Γ
  intro C hres H locs ad ls hR hE hS hst hlv hL
  have hi : i < gC σ k := al_of hst.2.2.1
  obtain ⟨ws, q, hP, hD, hc, hq⟩ := rh_at hR hi
  have hq' := hq
  rw [ent_arr h0] at hq
  unfold enA at hq
  rw [h1] at hq
  refine va_iast C.1 C.2.1 (kk_va C.2.2.2.2.2.1 k (by rw [h1]; decide)) hP hD hS q 0 hq (by rw [h2]; rfl) hv d (fun H1 locs1 hP1 hD1 hS1 => ?_)
  have hR1 : Rh D dA (rg σ0 ad0 s.heap.size) (sI σ k i n.toInt.toNat v) ad H1 := rh_set hR hi hc hq' (fun _ => rfl) hR.2.1 (fun a b h => ent_sI h) ((ent_arr h0).trans (by
    unfold enA
    rw [h1]
    have hf : (fun x => gI (sI σ k i n.toInt.toNat v) k i x) = upd (fun x => gI σ k i x) n.toNatClampNeg v := by
      funext y
      rw [gI_sI]
      by_cases hy : y = n.toNatClampNeg
      · subst hy
        rw [if_pos ⟨rfl, rfl, rfl⟩]
        simp [upd]
      · rw [if_neg (fun h => hy h.2.2)]; simp [upd, hy]
    show Sum.inl (dA k, gN σ k i, Sum.inl (fun x => gI (sI σ k i n.toInt.toNat v) k i x)) = Sum.inl (dA k, gN σ k i, Sum.inl (upd (fun x => gI σ k i x) n.toNatClampNeg v))
    rw [hf])) hP1 hD1
  exact kk C hres H1 locs1 ad ls hR1 (fun a b h => hE a b h) hS1 (als_C (σ := σ) (τ := sI σ k i n.toInt.toNat v) (fun t => Nat.le_refl (gC σ t)) hst.2.2.2) (lvl_C (σ := σ) (τ := sI σ k i n.toInt.toNat v) (fun t => Nat.le_refl (gC σ t)) hlv) hL
theorem j_bast {n : Int32} {v : Int32} {F : Nat → Option (ρ × rS)} (h0 : lyO k = none) (h1 : lyA k = (1, 0)) (h2 : lyT k = .byte) (d : decode cc pc = .ok (.bastore, 1)) (kk : ∀ j : Nat, J Γ R er cc own nL ret tg kc ks (pc + 1) lv st (sI σ k i j v.toInt8.toInt32) (F j)) : J Γ R er cc own nL ret tg kc ks pc lv (aI v :: aI n :: aR k i :: st) σ (idx n (gN σ k i) F) := by
  refine j_idx (fun j hj hv => ?_)
  have kk := kk j
  subst hj
  obtain ⟨p, l, e, s, m, args, below, meth, c, D, dA, σ0, ad0⟩ := Γ
  intro C hres H locs ad ls hR hE hS hst hlv hL
  have hi : i < gC σ k := al_of hst.2.2.1
  obtain ⟨ws, q, hP, hD, hc, hq⟩ := rh_at hR hi
  have hq' := hq
  rw [ent_arr h0] at hq
  unfold enA at hq
  rw [h1] at hq
  refine va_bast C.1 C.2.1 (kk_va C.2.2.2.2.2.1 k (by rw [h1]; decide)) hP hD hS q 0 hq (by rw [h2]; rfl) hv d (fun H1 locs1 hP1 hD1 hS1 => ?_)
  have hR1 : Rh D dA (rg σ0 ad0 s.heap.size) (sI σ k i n.toInt.toNat v.toInt8.toInt32) ad H1 := rh_set hR hi hc hq' (fun _ => rfl) hR.2.1 (fun a b h => ent_sI h) ((ent_arr h0).trans (by
    unfold enA
    rw [h1]
    have hf : (fun x => gI (sI σ k i n.toInt.toNat v.toInt8.toInt32) k i x) = upd (fun x => gI σ k i x) n.toNatClampNeg (vp_nar .byte v) := by
      funext y
      rw [gI_sI]
      by_cases hy : y = n.toNatClampNeg
      · subst hy
        rw [if_pos ⟨rfl, rfl, rfl⟩]
        simp [upd, vp_nar_byte]
      · rw [if_neg (fun h => hy h.2.2)]; simp [upd, hy]
    show Sum.inl (dA k, gN σ k i, Sum.inl (fun x => gI (sI σ k i n.toInt.toNat v.toInt8.toInt32) k i x)) = Sum.inl (dA k, gN σ k i, Sum.inl (upd (fun x => gI σ k i x) n.toNatClampNeg (vp_nar .byte v)))
    rw [hf])) hP1 hD1
  exact kk C hres H1 locs1 ad ls hR1 (fun a b h => hE a b h) hS1 (als_C (σ := σ) (τ := sI σ k i n.toInt.toNat v.toInt8.toInt32) (fun t => Nat.le_refl (gC σ t)) hst.2.2.2) (lvl_C (σ := σ) (τ := sI σ k i n.toInt.toNat v.toInt8.toInt32) (fun t => Nat.le_refl (gC σ t)) hlv) hL
theorem j_zast {n : Int32} {v : Int32} {F : Nat → Option (ρ × rS)} (h0 : lyO k = none) (h1 : lyA k = (2, 0)) (h2 : lyT k = .boolean) (d : decode cc pc = .ok (.bastore, 1)) (kk : ∀ j : Nat, J Γ R er cc own nL ret tg kc ks (pc + 1) lv st (sI σ k i j (vp_nar .boolean v)) (F j)) : J Γ R er cc own nL ret tg kc ks pc lv (aI v :: aI n :: aR k i :: st) σ (idx n (gN σ k i) F) := by
  refine j_idx (fun j hj hv => ?_)
  have kk := kk j
  subst hj
  obtain ⟨p, l, e, s, m, args, below, meth, c, D, dA, σ0, ad0⟩ := Γ
  intro C hres H locs ad ls hR hE hS hst hlv hL
  have hi : i < gC σ k := al_of hst.2.2.1
  obtain ⟨ws, q, hP, hD, hc, hq⟩ := rh_at hR hi
  have hq' := hq
  rw [ent_arr h0] at hq
  unfold enA at hq
  rw [h1] at hq
  refine va_zast C.1 C.2.1 (kk_va C.2.2.2.2.2.1 k (by rw [h1]; decide)) hP hD hS q 0 hq (by rw [h2]; rfl) hv d (fun H1 locs1 hP1 hD1 hS1 => ?_)
  have hR1 : Rh D dA (rg σ0 ad0 s.heap.size) (sI σ k i n.toInt.toNat (vp_nar .boolean v)) ad H1 := rh_set hR hi hc hq' (fun _ => rfl) hR.2.1 (fun a b h => ent_sI h) ((ent_arr h0).trans (by
    unfold enA
    rw [h1]
    have hf : (fun x => gI (sI σ k i n.toInt.toNat (vp_nar .boolean v)) k i x) = upd (fun x => gI σ k i x) n.toNatClampNeg (vp_nar .boolean v) := by
      funext y
      rw [gI_sI]
      by_cases hy : y = n.toNatClampNeg
      · subst hy
        rw [if_pos ⟨rfl, rfl, rfl⟩]
        simp [upd]
      · rw [if_neg (fun h => hy h.2.2)]; simp [upd, hy]
    show Sum.inl (dA k, gN σ k i, Sum.inl (fun x => gI (sI σ k i n.toInt.toNat (vp_nar .boolean v)) k i x)) = Sum.inl (dA k, gN σ k i, Sum.inl (upd (fun x => gI σ k i x) n.toNatClampNeg (vp_nar .boolean v)))
    rw [hf])) hP1 hD1
  exact kk C hres H1 locs1 ad ls hR1 (fun a b h => hE a b h) hS1 (als_C (σ := σ) (τ := sI σ k i n.toInt.toNat (vp_nar .boolean v)) (fun t => Nat.le_refl (gC σ t)) hst.2.2.2) (lvl_C (σ := σ) (τ := sI σ k i n.toInt.toNat (vp_nar .boolean v)) (fun t => Nat.le_refl (gC σ t)) hlv) hL
theorem j_last {n : Int32} {v : Int64} {F : Nat → Option (ρ × rS)} (h0 : lyO k = none) (h1 : lyA k = (3, 0)) (h2 : lyT k = .long) (d : decode cc pc = .ok (.lastore, 1)) (kk : ∀ j : Nat, J Γ R er cc own nL ret tg kc ks (pc + 1) lv st (sL σ k i j v) (F j)) : J Γ R er cc own nL ret tg kc ks pc lv (aL v :: aI n :: aR k i :: st) σ (idx n (gN σ k i) F) := by
  refine j_idx (fun j hj hv => ?_)
  have kk := kk j
  subst hj
  obtain ⟨p, l, e, s, m, args, below, meth, c, D, dA, σ0, ad0⟩ := Γ
  intro C hres H locs ad ls hR hE hS hst hlv hL
  have hi : i < gC σ k := al_of hst.2.2.1
  obtain ⟨ws, q, hP, hD, hc, hq⟩ := rh_at hR hi
  have hq' := hq
  rw [ent_arr h0] at hq
  unfold enA at hq
  rw [h1] at hq
  refine va_last C.1 C.2.1 (kk_va C.2.2.2.2.2.1 k (by rw [h1]; decide)) hP hD hS q 0 hq (by rw [h2]; rfl) hv d (fun H1 locs1 hP1 hD1 hS1 => ?_)
  have hR1 : Rh D dA (rg σ0 ad0 s.heap.size) (sL σ k i n.toInt.toNat v) ad H1 := rh_set hR hi hc hq' (fun _ => rfl) hR.2.1 (fun a b h => ent_sL h) ((ent_arr h0).trans (by
    unfold enA
    rw [h1]
    have hf : (fun x => gL (sL σ k i n.toInt.toNat v) k i x) = vp_updL (fun x => gL σ k i x) n.toNatClampNeg v := by
      funext y
      rw [gL_sL]
      by_cases hy : y = n.toNatClampNeg
      · subst hy
        rw [if_pos ⟨rfl, rfl, rfl⟩]
        simp [vp_updL]
      · rw [if_neg (fun h => hy h.2.2)]; simp [vp_updL, hy]
    show Sum.inl (dA k, gN σ k i, Sum.inr (Sum.inl (fun x => gL (sL σ k i n.toInt.toNat v) k i x))) = Sum.inl (dA k, gN σ k i, Sum.inr (Sum.inl (vp_updL (fun x => gL σ k i x) n.toNatClampNeg v)))
    rw [hf])) hP1 hD1
  exact kk C hres H1 locs1 ad ls hR1 (fun a b h => hE a b h) hS1 (als_C (σ := σ) (τ := sL σ k i n.toInt.toNat v) (fun t => Nat.le_refl (gC σ t)) hst.2.2.2) (lvl_C (σ := σ) (τ := sL σ k i n.toInt.toNat v) (fun t => Nat.le_refl (gC σ t)) hlv) hL
end JH
