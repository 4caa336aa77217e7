/** A call and the answer that the document asks for. */
record Due(Call call, int want) {
}
